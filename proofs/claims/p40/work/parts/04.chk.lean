/-! every table entry is checked: it is the code's, its links stand in the words -/
def lenI (i : Jvm.ClassFile.Instr) : Nat := match i with
  | .bipush _ => 2 | .sipush _ => 3 | .ldc2_w _ => 3 | .iload _ => 2 | .lload _ => 2 | .dload _ => 2 | .fload _ => 2 | .aload _ => 2
  | .istore _ => 2 | .lstore _ => 2 | .dstore _ => 2 | .fstore _ => 2 | .astore _ => 2 | .iinc _ _ => 3 | .goto _ => 3 | .if_icmp _ _ => 3 | .ifCond _ _ => 3
  | .getfield _ => 3 | .putfield _ => 3 | .invokevirtual _ => 3 | .invokestatic _ => 3 | .new _ => 3 | .tableswitch _ _ _ _ => 0 | .ldc _ => 2 | .ldc_w _ => 0 | .invokespecial _ => 0 | .newarray _ => 0 | _ => 1
def eqN (a b : Nat) : Bool := Nat.beq a b
def ltN (a b : Nat) : Bool := Nat.blt a b
def inLF (ci i x : Nat) : Bool := LF.any (fun e => eqN e.1 ci && (eqN e.2.1 i && eqN e.2.2.1 x))
def inLM (ci i x : Nat) : Bool := LM.any (fun e => eqN e.1 ci && (eqN e.2.1 i && eqN e.2.2.1 x))
def inLN (ci i x : Nat) : Bool := LN.any (fun e => eqN e.1 ci && (eqN e.2.1 i && eqN e.2.2.1 x))
def inLC (ci i : Nat) (z : Int) : Bool := LC.any (fun e => eqN e.1 ci && (eqN e.2.1 i && decide (e.2.2.1 = z)))
def inLNa (ci i x : Nat) : Bool := LNa.any (fun e => eqN e.1 ci && (eqN e.2.1 i && eqN e.2.2.1 x))
def inLL (ci i : Nat) (z : Int) : Bool := LL.any (fun e => eqN e.1 ci && (eqN e.2.1 i && decide (e.2.2.1 = z)))
def THS : List (Nat × (Nat × (Nat × (Nat × (Nat × (Nat × (Nat × (Nat × String)))))))) := [(121, 12, 1, 72, 74, 76, 0, 0, "the character is not from 33 to 126"), (121, 32, 2, 83, 85, 87, 0, 1, "the text has 80 characters"), (122, 35, 1, 72, 103, 76, 0, 0, "the text is not a body text"), (122, 60, 2, 83, 109, 87, 0, 1, "too many statements, allocations or calls"), (128, 9, 1, 72, 135, 76, 0, 0, "the limit is not from 0 to 2"), (154, 86, 5, 268, 270, 272, 1, 2, "no variable has a target by the unification analysis"), (157, 7, 2, 83, 278, 87, 1, 1, "nothing was saved"), (162, 9, 3, 167, 307, 171, 1, 3, "no such function"), (164, 15, 3, 167, 309, 171, 1, 3, "no such statement"), (165, 10, 3, 167, 311, 171, 1, 3, "no such variable"), (166, 24, 3, 167, 313, 171, 1, 3, "no such site or field"), (167, 24, 3, 167, 315, 171, 1, 3, "no such target"), (167, 50, 4, 317, 319, 321, 1, 4, "no such fact with the limit 0")]
def inTH (mi q i x : Nat) : Bool := THS.any (fun e => eqN e.1 mi && (eqN e.2.1 q && (eqN e.2.2.2.1 i && eqN e.2.2.1 x)))
def inLW (x : Nat) : Bool := LW.any (fun e => eqN e.1 x)
def okC (mi : Nat) (y : Nat × (Nat × (Nat × Int))) : Bool :=
  inLW y.1 && (decide (y.2.2.2 = (mBu y.1 : Nat)) && (Nat.ble (mFr y.1 + 1) (mFr mi) && (Nat.ble (8 + (mL y.1 + 11) + mLo y.1) (mLo mi))))
def okI (mi q : Nat) (i : Jvm.ClassFile.Instr) (y : Nat × (Nat × (Nat × Int))) : Bool := match i with
  | .bipush n => decide ((Int8.ofInt n).toInt32 = Int32.ofInt n)
  | .sipush n => decide ((Int16.ofInt n).toInt32 = Int32.ofInt n)
  | .ldc i => if y.1 = 1 then inLC (mC mi) i y.2.2.2 else true
  | .ldc2_w i => inLL (mC mi) i y.2.2.2
  | .istore_n j => ltN j.val (mL mi) | .istore j => ltN j (mL mi) | .fstore j => ltN j (mL mi) | .astore_n j => ltN j.val (mL mi) | .astore j => ltN j (mL mi) | .iinc j _ => ltN j (mL mi)
  | .lstore_n j => ltN (j.val + 1) (mL mi) | .lstore j => ltN (j + 1) (mL mi) | .dstore j => ltN (j + 1) (mL mi)
  | .goto off => decide ((q : Int) + off = (y.1 : Int)) | .if_icmp _ off => decide ((q : Int) + off = (y.1 : Int)) | .ifCond _ off => decide ((q : Int) + off = (y.1 : Int))
  | .tableswitch d lo hi offs => decide (0 ≤ (q : Int) + d) && (offs.toList.all (fun o => decide (0 ≤ (q : Int) + o)) && (decide ((hi - lo + 1).toNat ≤ offs.size) && (decide (inR lo) && decide (inR hi))))
  | .getfield i => inLF (mC mi) i y.1 && (ltN y.1 (nf (mC mi)) && (eqN y.2.1 (mC mi) && ltN (mC mi) 9))
  | .putfield i => inLF (mC mi) i y.1 && (ltN y.1 (nf (mC mi)) && (eqN y.2.1 (mC mi) && (ltN (mC mi) 9 && !(fT (mC mi) y.1).2.2.2)))
  | .ireturn => decide (mR mi = some .int ∨ (mR mi = some .boolean ∧ y.1 = 1))
  | .lreturn => decide (mR mi = some .long) | .dreturn => decide (mR mi = some .double) | .freturn => decide (mR mi = some .float) | .return_ => decide (mR mi = none)
  | .areturn => decide (mR mi = some (.object "PointerAnalyzer$Contexts"))
  | .invokestatic i => if Nat.ble 1000 y.1 then (inLNa (mC mi) i y.1 && (decide (2 ≤ mFr mi) && decide (23 ≤ mLo mi))) else okC mi y && (mS y.1 && (decide ((parseMethodDescriptor (mY y.1).desc).map (fun d => d.parameters.length) = some y.2.1) && (inLM (mC mi) i y.1 || (inLN (mC mi) i y.1 && (mH y.1).isEmpty))))
  | .invokevirtual i => okC mi y && (!mS y.1 && (decide ((parseMethodDescriptor (mY y.1).desc).map (fun d => d.parameters.length + 1) = some y.2.1) && (inLM (mC mi) i y.1 && ((mH y.1).isEmpty && (eqN y.2.2.1 (mC y.1) && ltN (mC y.1) 9)))))
  | .new i => if y.2.1 = 1 then inTH mi q i y.1 else true
  | _ => true
def okB (mi q : Nat) (en : Ent) : Bool := decide (decode (mB mi) q = .ok (en.1, en.2.1)) && ((eqN en.2.1 (lenI en.1) || eqN (lenI en.1) 0) && okI mi q en.1 en.2.2)
theorem lkp_ok {mi : Nat} : ∀ (k : List (Nat × Ent)) (q : Nat) (en : Ent), (k.all (fun e => okB mi e.1 e.2)) = true → lkp k q = some en → okB mi q en = true
  | [], _, _, _, h => by cases h
  | e :: r, q, en, h1, h => by
    rw [List.all_cons, Bool.and_eq_true] at h1
    unfold lkp at h
    cases hq : Nat.beq e.1 q with
    | true =>
      rw [hq] at h
      have := Nat.eq_of_beq_eq_true hq
      subst this
      cases h
      exact h1.1
    | false => rw [hq] at h; exact lkp_ok r q en h1.2 h
theorem bif_lt {a b : Nat} {x y : Option Ent} {en : Ent} {P : Prop} (h : (bif Nat.blt a b then x else y) = some en) (h1 : a < b → x = some en → P) (h2 : b ≤ a → y = some en → P) : P := by
  cases hc : Nat.blt a b with
  | true => rw [hc] at h; exact h1 (by simpa [Nat.blt_eq] using hc) h
  | false =>
    rw [hc] at h
    refine h2 (Nat.le_of_not_lt fun hlt => ?_) h
    have : Nat.blt a b = true := by simpa [Nat.blt_eq] using hlt
    rw [this] at hc; cases hc

theorem ok_0 : (k_0.all (fun e => okB 0 e.1 e.2)) = true := by decide +kernel
theorem okk_0 {q : Nat} {en : Ent} (h : kk_0 q = some en) : okB 0 q en = true := lkp_ok _ _ _ ok_0 h
theorem ok_1 : (k_1.all (fun e => okB 1 e.1 e.2)) = true := by decide +kernel
theorem okk_1 {q : Nat} {en : Ent} (h : kk_1 q = some en) : okB 1 q en = true := lkp_ok _ _ _ ok_1 h
theorem ok_2 : (k_2.all (fun e => okB 2 e.1 e.2)) = true := by decide +kernel
theorem okk_2 {q : Nat} {en : Ent} (h : kk_2 q = some en) : okB 2 q en = true := lkp_ok _ _ _ ok_2 h
theorem ok_3 : (k_3.all (fun e => okB 3 e.1 e.2)) = true := by decide +kernel
theorem okk_3 {q : Nat} {en : Ent} (h : kk_3 q = some en) : okB 3 q en = true := lkp_ok _ _ _ ok_3 h
theorem ok_4 : (k_4.all (fun e => okB 4 e.1 e.2)) = true := by decide +kernel
theorem okk_4 {q : Nat} {en : Ent} (h : kk_4 q = some en) : okB 4 q en = true := lkp_ok _ _ _ ok_4 h
theorem ok_5 : (k_5.all (fun e => okB 5 e.1 e.2)) = true := by decide +kernel
theorem okk_5 {q : Nat} {en : Ent} (h : kk_5 q = some en) : okB 5 q en = true := lkp_ok _ _ _ ok_5 h
theorem ok_6 : (k_6.all (fun e => okB 6 e.1 e.2)) = true := by decide +kernel
theorem okk_6 {q : Nat} {en : Ent} (h : kk_6 q = some en) : okB 6 q en = true := lkp_ok _ _ _ ok_6 h
theorem ok_7 : (k_7.all (fun e => okB 7 e.1 e.2)) = true := by decide +kernel
theorem okk_7 {q : Nat} {en : Ent} (h : kk_7 q = some en) : okB 7 q en = true := lkp_ok _ _ _ ok_7 h
theorem ok_8 : (k_8.all (fun e => okB 8 e.1 e.2)) = true := by decide +kernel
theorem okk_8 {q : Nat} {en : Ent} (h : kk_8 q = some en) : okB 8 q en = true := lkp_ok _ _ _ ok_8 h
theorem ok_9 : (k_9.all (fun e => okB 9 e.1 e.2)) = true := by decide +kernel
theorem okk_9 {q : Nat} {en : Ent} (h : kk_9 q = some en) : okB 9 q en = true := lkp_ok _ _ _ ok_9 h
theorem ok_10 : (k_10.all (fun e => okB 10 e.1 e.2)) = true := by decide +kernel
theorem okk_10 {q : Nat} {en : Ent} (h : kk_10 q = some en) : okB 10 q en = true := lkp_ok _ _ _ ok_10 h
theorem ok_11 : (k_11.all (fun e => okB 11 e.1 e.2)) = true := by decide +kernel
theorem okk_11 {q : Nat} {en : Ent} (h : kk_11 q = some en) : okB 11 q en = true := lkp_ok _ _ _ ok_11 h
theorem ok_12 : (k_12.all (fun e => okB 12 e.1 e.2)) = true := by decide +kernel
theorem okk_12 {q : Nat} {en : Ent} (h : kk_12 q = some en) : okB 12 q en = true := lkp_ok _ _ _ ok_12 h
theorem ok_13 : (k_13.all (fun e => okB 13 e.1 e.2)) = true := by decide +kernel
theorem okk_13 {q : Nat} {en : Ent} (h : kk_13 q = some en) : okB 13 q en = true := lkp_ok _ _ _ ok_13 h
theorem ok_14 : (k_14.all (fun e => okB 14 e.1 e.2)) = true := by decide +kernel
theorem okk_14 {q : Nat} {en : Ent} (h : kk_14 q = some en) : okB 14 q en = true := lkp_ok _ _ _ ok_14 h
theorem ok_15 : (k_15.all (fun e => okB 15 e.1 e.2)) = true := by decide +kernel
theorem okk_15 {q : Nat} {en : Ent} (h : kk_15 q = some en) : okB 15 q en = true := lkp_ok _ _ _ ok_15 h
theorem ok_16 : (k_16.all (fun e => okB 16 e.1 e.2)) = true := by decide +kernel
theorem okk_16 {q : Nat} {en : Ent} (h : kk_16 q = some en) : okB 16 q en = true := lkp_ok _ _ _ ok_16 h
theorem ok_17 : (k_17.all (fun e => okB 17 e.1 e.2)) = true := by decide +kernel
theorem okk_17 {q : Nat} {en : Ent} (h : kk_17 q = some en) : okB 17 q en = true := lkp_ok _ _ _ ok_17 h
theorem ok_18 : (k_18.all (fun e => okB 18 e.1 e.2)) = true := by decide +kernel
theorem okk_18 {q : Nat} {en : Ent} (h : kk_18 q = some en) : okB 18 q en = true := lkp_ok _ _ _ ok_18 h
theorem ok_19 : (k_19.all (fun e => okB 19 e.1 e.2)) = true := by decide +kernel
theorem okk_19 {q : Nat} {en : Ent} (h : kk_19 q = some en) : okB 19 q en = true := lkp_ok _ _ _ ok_19 h
theorem ok_20 : (k_20.all (fun e => okB 20 e.1 e.2)) = true := by decide +kernel
theorem okk_20 {q : Nat} {en : Ent} (h : kk_20 q = some en) : okB 20 q en = true := lkp_ok _ _ _ ok_20 h
theorem ok_21 : (k_21.all (fun e => okB 21 e.1 e.2)) = true := by decide +kernel
theorem okk_21 {q : Nat} {en : Ent} (h : kk_21 q = some en) : okB 21 q en = true := lkp_ok _ _ _ ok_21 h
theorem ok_22 : (k_22.all (fun e => okB 22 e.1 e.2)) = true := by decide +kernel
theorem okk_22 {q : Nat} {en : Ent} (h : kk_22 q = some en) : okB 22 q en = true := lkp_ok _ _ _ ok_22 h
theorem ok_23 : (k_23.all (fun e => okB 23 e.1 e.2)) = true := by decide +kernel
theorem okk_23 {q : Nat} {en : Ent} (h : kk_23 q = some en) : okB 23 q en = true := lkp_ok _ _ _ ok_23 h
theorem ok_25 : (k_25.all (fun e => okB 25 e.1 e.2)) = true := by decide +kernel
theorem okk_25 {q : Nat} {en : Ent} (h : kk_25 q = some en) : okB 25 q en = true := lkp_ok _ _ _ ok_25 h
theorem ok_26 : (k_26.all (fun e => okB 26 e.1 e.2)) = true := by decide +kernel
theorem okk_26 {q : Nat} {en : Ent} (h : kk_26 q = some en) : okB 26 q en = true := lkp_ok _ _ _ ok_26 h
theorem ok_29 : (k_29.all (fun e => okB 29 e.1 e.2)) = true := by decide +kernel
theorem okk_29 {q : Nat} {en : Ent} (h : kk_29 q = some en) : okB 29 q en = true := lkp_ok _ _ _ ok_29 h
theorem ok_30 : (k_30.all (fun e => okB 30 e.1 e.2)) = true := by decide +kernel
theorem okk_30 {q : Nat} {en : Ent} (h : kk_30 q = some en) : okB 30 q en = true := lkp_ok _ _ _ ok_30 h
theorem ok_31 : (k_31.all (fun e => okB 31 e.1 e.2)) = true := by decide +kernel
theorem okk_31 {q : Nat} {en : Ent} (h : kk_31 q = some en) : okB 31 q en = true := lkp_ok _ _ _ ok_31 h
theorem ok_32 : (k_32.all (fun e => okB 32 e.1 e.2)) = true := by decide +kernel
theorem okk_32 {q : Nat} {en : Ent} (h : kk_32 q = some en) : okB 32 q en = true := lkp_ok _ _ _ ok_32 h
theorem ok_33 : (k_33.all (fun e => okB 33 e.1 e.2)) = true := by decide +kernel
theorem okk_33 {q : Nat} {en : Ent} (h : kk_33 q = some en) : okB 33 q en = true := lkp_ok _ _ _ ok_33 h
theorem ok_34 : (k_34.all (fun e => okB 34 e.1 e.2)) = true := by decide +kernel
theorem okk_34 {q : Nat} {en : Ent} (h : kk_34 q = some en) : okB 34 q en = true := lkp_ok _ _ _ ok_34 h
theorem ok_35 : (k_35.all (fun e => okB 35 e.1 e.2)) = true := by decide +kernel
theorem okk_35 {q : Nat} {en : Ent} (h : kk_35 q = some en) : okB 35 q en = true := lkp_ok _ _ _ ok_35 h
theorem ok_36 : (k_36.all (fun e => okB 36 e.1 e.2)) = true := by decide +kernel
theorem okk_36 {q : Nat} {en : Ent} (h : kk_36 q = some en) : okB 36 q en = true := lkp_ok _ _ _ ok_36 h
theorem ok_37 : (k_37.all (fun e => okB 37 e.1 e.2)) = true := by decide +kernel
theorem okk_37 {q : Nat} {en : Ent} (h : kk_37 q = some en) : okB 37 q en = true := lkp_ok _ _ _ ok_37 h
theorem ok_38 : (k_38.all (fun e => okB 38 e.1 e.2)) = true := by decide +kernel
theorem okk_38 {q : Nat} {en : Ent} (h : kk_38 q = some en) : okB 38 q en = true := lkp_ok _ _ _ ok_38 h
theorem ok_39 : (k_39.all (fun e => okB 39 e.1 e.2)) = true := by decide +kernel
theorem okk_39 {q : Nat} {en : Ent} (h : kk_39 q = some en) : okB 39 q en = true := lkp_ok _ _ _ ok_39 h
theorem ok_40 : (k_40.all (fun e => okB 40 e.1 e.2)) = true := by decide +kernel
theorem okk_40 {q : Nat} {en : Ent} (h : kk_40 q = some en) : okB 40 q en = true := lkp_ok _ _ _ ok_40 h
theorem ok_41 : (k_41.all (fun e => okB 41 e.1 e.2)) = true := by decide +kernel
theorem okk_41 {q : Nat} {en : Ent} (h : kk_41 q = some en) : okB 41 q en = true := lkp_ok _ _ _ ok_41 h
theorem ok_42 : (k_42.all (fun e => okB 42 e.1 e.2)) = true := by decide +kernel
theorem okk_42 {q : Nat} {en : Ent} (h : kk_42 q = some en) : okB 42 q en = true := lkp_ok _ _ _ ok_42 h
theorem ok_43 : (k_43.all (fun e => okB 43 e.1 e.2)) = true := by decide +kernel
theorem okk_43 {q : Nat} {en : Ent} (h : kk_43 q = some en) : okB 43 q en = true := lkp_ok _ _ _ ok_43 h
theorem ok_44 : (k_44.all (fun e => okB 44 e.1 e.2)) = true := by decide +kernel
theorem okk_44 {q : Nat} {en : Ent} (h : kk_44 q = some en) : okB 44 q en = true := lkp_ok _ _ _ ok_44 h
theorem ok_45 : (k_45.all (fun e => okB 45 e.1 e.2)) = true := by decide +kernel
theorem okk_45 {q : Nat} {en : Ent} (h : kk_45 q = some en) : okB 45 q en = true := lkp_ok _ _ _ ok_45 h
theorem ok_46 : (k_46.all (fun e => okB 46 e.1 e.2)) = true := by decide +kernel
theorem okk_46 {q : Nat} {en : Ent} (h : kk_46 q = some en) : okB 46 q en = true := lkp_ok _ _ _ ok_46 h
theorem ok_47 : (k_47.all (fun e => okB 47 e.1 e.2)) = true := by decide +kernel
theorem okk_47 {q : Nat} {en : Ent} (h : kk_47 q = some en) : okB 47 q en = true := lkp_ok _ _ _ ok_47 h
theorem ok_48 : (k_48.all (fun e => okB 48 e.1 e.2)) = true := by decide +kernel
theorem okk_48 {q : Nat} {en : Ent} (h : kk_48 q = some en) : okB 48 q en = true := lkp_ok _ _ _ ok_48 h
theorem ok_49 : (k_49.all (fun e => okB 49 e.1 e.2)) = true := by decide +kernel
theorem okk_49 {q : Nat} {en : Ent} (h : kk_49 q = some en) : okB 49 q en = true := lkp_ok _ _ _ ok_49 h
theorem ok_50 : (k_50.all (fun e => okB 50 e.1 e.2)) = true := by decide +kernel
theorem okk_50 {q : Nat} {en : Ent} (h : kk_50 q = some en) : okB 50 q en = true := lkp_ok _ _ _ ok_50 h
theorem ok_51 : (k_51.all (fun e => okB 51 e.1 e.2)) = true := by decide +kernel
theorem okk_51 {q : Nat} {en : Ent} (h : kk_51 q = some en) : okB 51 q en = true := lkp_ok _ _ _ ok_51 h
theorem ok_52 : (k_52.all (fun e => okB 52 e.1 e.2)) = true := by decide +kernel
theorem okk_52 {q : Nat} {en : Ent} (h : kk_52 q = some en) : okB 52 q en = true := lkp_ok _ _ _ ok_52 h
theorem ok_53 : (k_53.all (fun e => okB 53 e.1 e.2)) = true := by decide +kernel
theorem okk_53 {q : Nat} {en : Ent} (h : kk_53 q = some en) : okB 53 q en = true := lkp_ok _ _ _ ok_53 h
theorem ok_54 : (k_54.all (fun e => okB 54 e.1 e.2)) = true := by decide +kernel
theorem okk_54 {q : Nat} {en : Ent} (h : kk_54 q = some en) : okB 54 q en = true := lkp_ok _ _ _ ok_54 h
theorem ok_55 : (k_55.all (fun e => okB 55 e.1 e.2)) = true := by decide +kernel
theorem okk_55 {q : Nat} {en : Ent} (h : kk_55 q = some en) : okB 55 q en = true := lkp_ok _ _ _ ok_55 h
theorem ok_56 : (k_56.all (fun e => okB 56 e.1 e.2)) = true := by decide +kernel
theorem okk_56 {q : Nat} {en : Ent} (h : kk_56 q = some en) : okB 56 q en = true := lkp_ok _ _ _ ok_56 h
theorem ok_57 : (k_57.all (fun e => okB 57 e.1 e.2)) = true := by decide +kernel
theorem okk_57 {q : Nat} {en : Ent} (h : kk_57 q = some en) : okB 57 q en = true := lkp_ok _ _ _ ok_57 h
theorem ok_58 : (k_58.all (fun e => okB 58 e.1 e.2)) = true := by decide +kernel
theorem okk_58 {q : Nat} {en : Ent} (h : kk_58 q = some en) : okB 58 q en = true := lkp_ok _ _ _ ok_58 h
theorem ok_60 : (k_60.all (fun e => okB 60 e.1 e.2)) = true := by decide +kernel
theorem okk_60 {q : Nat} {en : Ent} (h : kk_60 q = some en) : okB 60 q en = true := lkp_ok _ _ _ ok_60 h
theorem ok_61 : (k_61.all (fun e => okB 61 e.1 e.2)) = true := by decide +kernel
theorem okk_61 {q : Nat} {en : Ent} (h : kk_61 q = some en) : okB 61 q en = true := lkp_ok _ _ _ ok_61 h
theorem ok_62 : (k_62.all (fun e => okB 62 e.1 e.2)) = true := by decide +kernel
theorem okk_62 {q : Nat} {en : Ent} (h : kk_62 q = some en) : okB 62 q en = true := lkp_ok _ _ _ ok_62 h
theorem ok_63 : (k_63.all (fun e => okB 63 e.1 e.2)) = true := by decide +kernel
theorem okk_63 {q : Nat} {en : Ent} (h : kk_63 q = some en) : okB 63 q en = true := lkp_ok _ _ _ ok_63 h
theorem ok_64 : (k_64.all (fun e => okB 64 e.1 e.2)) = true := by decide +kernel
theorem okk_64 {q : Nat} {en : Ent} (h : kk_64 q = some en) : okB 64 q en = true := lkp_ok _ _ _ ok_64 h
theorem ok_65 : (k_65.all (fun e => okB 65 e.1 e.2)) = true := by decide +kernel
theorem okk_65 {q : Nat} {en : Ent} (h : kk_65 q = some en) : okB 65 q en = true := lkp_ok _ _ _ ok_65 h
theorem ok_66 : (k_66.all (fun e => okB 66 e.1 e.2)) = true := by decide +kernel
theorem okk_66 {q : Nat} {en : Ent} (h : kk_66 q = some en) : okB 66 q en = true := lkp_ok _ _ _ ok_66 h
theorem ok_67 : (k_67.all (fun e => okB 67 e.1 e.2)) = true := by decide +kernel
theorem okk_67 {q : Nat} {en : Ent} (h : kk_67 q = some en) : okB 67 q en = true := lkp_ok _ _ _ ok_67 h
theorem ok_68 : (k_68.all (fun e => okB 68 e.1 e.2)) = true := by decide +kernel
theorem okk_68 {q : Nat} {en : Ent} (h : kk_68 q = some en) : okB 68 q en = true := lkp_ok _ _ _ ok_68 h
theorem ok_69 : (k_69.all (fun e => okB 69 e.1 e.2)) = true := by decide +kernel
theorem okk_69 {q : Nat} {en : Ent} (h : kk_69 q = some en) : okB 69 q en = true := lkp_ok _ _ _ ok_69 h
theorem ok_70 : (k_70.all (fun e => okB 70 e.1 e.2)) = true := by decide +kernel
theorem okk_70 {q : Nat} {en : Ent} (h : kk_70 q = some en) : okB 70 q en = true := lkp_ok _ _ _ ok_70 h
theorem ok_71 : (k_71.all (fun e => okB 71 e.1 e.2)) = true := by decide +kernel
theorem okk_71 {q : Nat} {en : Ent} (h : kk_71 q = some en) : okB 71 q en = true := lkp_ok _ _ _ ok_71 h
theorem ok_72 : (k_72.all (fun e => okB 72 e.1 e.2)) = true := by decide +kernel
theorem okk_72 {q : Nat} {en : Ent} (h : kk_72 q = some en) : okB 72 q en = true := lkp_ok _ _ _ ok_72 h
theorem ok_73 : (k_73.all (fun e => okB 73 e.1 e.2)) = true := by decide +kernel
theorem okk_73 {q : Nat} {en : Ent} (h : kk_73 q = some en) : okB 73 q en = true := lkp_ok _ _ _ ok_73 h
theorem ok_74 : (k_74.all (fun e => okB 74 e.1 e.2)) = true := by decide +kernel
theorem okk_74 {q : Nat} {en : Ent} (h : kk_74 q = some en) : okB 74 q en = true := lkp_ok _ _ _ ok_74 h
theorem ok_75 : (k_75.all (fun e => okB 75 e.1 e.2)) = true := by decide +kernel
theorem okk_75 {q : Nat} {en : Ent} (h : kk_75 q = some en) : okB 75 q en = true := lkp_ok _ _ _ ok_75 h
theorem ok_76 : (k_76.all (fun e => okB 76 e.1 e.2)) = true := by decide +kernel
theorem okk_76 {q : Nat} {en : Ent} (h : kk_76 q = some en) : okB 76 q en = true := lkp_ok _ _ _ ok_76 h
theorem ok_77 : (k_77.all (fun e => okB 77 e.1 e.2)) = true := by decide +kernel
theorem okk_77 {q : Nat} {en : Ent} (h : kk_77 q = some en) : okB 77 q en = true := lkp_ok _ _ _ ok_77 h
theorem ok_78 : (k_78.all (fun e => okB 78 e.1 e.2)) = true := by decide +kernel
theorem okk_78 {q : Nat} {en : Ent} (h : kk_78 q = some en) : okB 78 q en = true := lkp_ok _ _ _ ok_78 h
theorem ok_79 : (k_79.all (fun e => okB 79 e.1 e.2)) = true := by decide +kernel
theorem okk_79 {q : Nat} {en : Ent} (h : kk_79 q = some en) : okB 79 q en = true := lkp_ok _ _ _ ok_79 h
theorem ok_80 : (k_80.all (fun e => okB 80 e.1 e.2)) = true := by decide +kernel
theorem okk_80 {q : Nat} {en : Ent} (h : kk_80 q = some en) : okB 80 q en = true := lkp_ok _ _ _ ok_80 h
theorem ok_81 : (k_81.all (fun e => okB 81 e.1 e.2)) = true := by decide +kernel
theorem okk_81 {q : Nat} {en : Ent} (h : kk_81 q = some en) : okB 81 q en = true := lkp_ok _ _ _ ok_81 h
theorem ok_82 : (k_82.all (fun e => okB 82 e.1 e.2)) = true := by decide +kernel
theorem okk_82 {q : Nat} {en : Ent} (h : kk_82 q = some en) : okB 82 q en = true := lkp_ok _ _ _ ok_82 h
theorem ok_83 : (k_83.all (fun e => okB 83 e.1 e.2)) = true := by decide +kernel
theorem okk_83 {q : Nat} {en : Ent} (h : kk_83 q = some en) : okB 83 q en = true := lkp_ok _ _ _ ok_83 h
theorem ok_84 : (k_84.all (fun e => okB 84 e.1 e.2)) = true := by decide +kernel
theorem okk_84 {q : Nat} {en : Ent} (h : kk_84 q = some en) : okB 84 q en = true := lkp_ok _ _ _ ok_84 h
theorem ok_85 : (k_85.all (fun e => okB 85 e.1 e.2)) = true := by decide +kernel
theorem okk_85 {q : Nat} {en : Ent} (h : kk_85 q = some en) : okB 85 q en = true := lkp_ok _ _ _ ok_85 h
theorem ok_86 : (k_86.all (fun e => okB 86 e.1 e.2)) = true := by decide +kernel
theorem okk_86 {q : Nat} {en : Ent} (h : kk_86 q = some en) : okB 86 q en = true := lkp_ok _ _ _ ok_86 h
theorem ok_87 : (k_87.all (fun e => okB 87 e.1 e.2)) = true := by decide +kernel
theorem okk_87 {q : Nat} {en : Ent} (h : kk_87 q = some en) : okB 87 q en = true := lkp_ok _ _ _ ok_87 h
theorem ok_88 : (k_88.all (fun e => okB 88 e.1 e.2)) = true := by decide +kernel
theorem okk_88 {q : Nat} {en : Ent} (h : kk_88 q = some en) : okB 88 q en = true := lkp_ok _ _ _ ok_88 h
theorem ok_89 : (k_89.all (fun e => okB 89 e.1 e.2)) = true := by decide +kernel
theorem okk_89 {q : Nat} {en : Ent} (h : kk_89 q = some en) : okB 89 q en = true := lkp_ok _ _ _ ok_89 h
theorem ok_90 : (k_90.all (fun e => okB 90 e.1 e.2)) = true := by decide +kernel
theorem okk_90 {q : Nat} {en : Ent} (h : kk_90 q = some en) : okB 90 q en = true := lkp_ok _ _ _ ok_90 h
theorem ok_91 : (k_91.all (fun e => okB 91 e.1 e.2)) = true := by decide +kernel
theorem okk_91 {q : Nat} {en : Ent} (h : kk_91 q = some en) : okB 91 q en = true := lkp_ok _ _ _ ok_91 h
theorem ok_92 : (k_92.all (fun e => okB 92 e.1 e.2)) = true := by decide +kernel
theorem okk_92 {q : Nat} {en : Ent} (h : kk_92 q = some en) : okB 92 q en = true := lkp_ok _ _ _ ok_92 h
theorem ok_93 : (k_93.all (fun e => okB 93 e.1 e.2)) = true := by decide +kernel
theorem okk_93 {q : Nat} {en : Ent} (h : kk_93 q = some en) : okB 93 q en = true := lkp_ok _ _ _ ok_93 h
theorem ok_94 : (k_94.all (fun e => okB 94 e.1 e.2)) = true := by decide +kernel
theorem okk_94 {q : Nat} {en : Ent} (h : kk_94 q = some en) : okB 94 q en = true := lkp_ok _ _ _ ok_94 h
theorem ok_95 : (k_95.all (fun e => okB 95 e.1 e.2)) = true := by decide +kernel
theorem okk_95 {q : Nat} {en : Ent} (h : kk_95 q = some en) : okB 95 q en = true := lkp_ok _ _ _ ok_95 h
theorem ok_96 : (k_96.all (fun e => okB 96 e.1 e.2)) = true := by decide +kernel
theorem okk_96 {q : Nat} {en : Ent} (h : kk_96 q = some en) : okB 96 q en = true := lkp_ok _ _ _ ok_96 h
theorem ok_97 : (k_97.all (fun e => okB 97 e.1 e.2)) = true := by decide +kernel
theorem okk_97 {q : Nat} {en : Ent} (h : kk_97 q = some en) : okB 97 q en = true := lkp_ok _ _ _ ok_97 h
theorem ok_98 : (k_98.all (fun e => okB 98 e.1 e.2)) = true := by decide +kernel
theorem okk_98 {q : Nat} {en : Ent} (h : kk_98 q = some en) : okB 98 q en = true := lkp_ok _ _ _ ok_98 h
theorem ok_99 : (k_99.all (fun e => okB 99 e.1 e.2)) = true := by decide +kernel
theorem okk_99 {q : Nat} {en : Ent} (h : kk_99 q = some en) : okB 99 q en = true := lkp_ok _ _ _ ok_99 h
theorem ok_100 : (k_100.all (fun e => okB 100 e.1 e.2)) = true := by decide +kernel
theorem okk_100 {q : Nat} {en : Ent} (h : kk_100 q = some en) : okB 100 q en = true := lkp_ok _ _ _ ok_100 h
theorem ok_101 : (k_101.all (fun e => okB 101 e.1 e.2)) = true := by decide +kernel
theorem okk_101 {q : Nat} {en : Ent} (h : kk_101 q = some en) : okB 101 q en = true := lkp_ok _ _ _ ok_101 h
theorem ok_102 : (k_102.all (fun e => okB 102 e.1 e.2)) = true := by decide +kernel
theorem okk_102 {q : Nat} {en : Ent} (h : kk_102 q = some en) : okB 102 q en = true := lkp_ok _ _ _ ok_102 h
theorem ok_103 : (k_103.all (fun e => okB 103 e.1 e.2)) = true := by decide +kernel
theorem okk_103 {q : Nat} {en : Ent} (h : kk_103 q = some en) : okB 103 q en = true := lkp_ok _ _ _ ok_103 h
theorem ok_104 : (k_104.all (fun e => okB 104 e.1 e.2)) = true := by decide +kernel
theorem okk_104 {q : Nat} {en : Ent} (h : kk_104 q = some en) : okB 104 q en = true := lkp_ok _ _ _ ok_104 h
theorem ok_105 : (k_105.all (fun e => okB 105 e.1 e.2)) = true := by decide +kernel
theorem okk_105 {q : Nat} {en : Ent} (h : kk_105 q = some en) : okB 105 q en = true := lkp_ok _ _ _ ok_105 h
theorem ok_106 : (k_106.all (fun e => okB 106 e.1 e.2)) = true := by decide +kernel
theorem okk_106 {q : Nat} {en : Ent} (h : kk_106 q = some en) : okB 106 q en = true := lkp_ok _ _ _ ok_106 h
theorem ok_107 : (k_107.all (fun e => okB 107 e.1 e.2)) = true := by decide +kernel
theorem okk_107 {q : Nat} {en : Ent} (h : kk_107 q = some en) : okB 107 q en = true := lkp_ok _ _ _ ok_107 h
theorem ok_108 : (k_108.all (fun e => okB 108 e.1 e.2)) = true := by decide +kernel
theorem okk_108 {q : Nat} {en : Ent} (h : kk_108 q = some en) : okB 108 q en = true := lkp_ok _ _ _ ok_108 h
theorem ok_109 : (k_109.all (fun e => okB 109 e.1 e.2)) = true := by decide +kernel
theorem okk_109 {q : Nat} {en : Ent} (h : kk_109 q = some en) : okB 109 q en = true := lkp_ok _ _ _ ok_109 h
theorem ok_110 : (k_110.all (fun e => okB 110 e.1 e.2)) = true := by decide +kernel
theorem okk_110 {q : Nat} {en : Ent} (h : kk_110 q = some en) : okB 110 q en = true := lkp_ok _ _ _ ok_110 h
theorem ok_111 : (k_111.all (fun e => okB 111 e.1 e.2)) = true := by decide +kernel
theorem okk_111 {q : Nat} {en : Ent} (h : kk_111 q = some en) : okB 111 q en = true := lkp_ok _ _ _ ok_111 h
theorem ok_112 : (k_112.all (fun e => okB 112 e.1 e.2)) = true := by decide +kernel
theorem okk_112 {q : Nat} {en : Ent} (h : kk_112 q = some en) : okB 112 q en = true := lkp_ok _ _ _ ok_112 h
theorem ok_113 : (k_113.all (fun e => okB 113 e.1 e.2)) = true := by decide +kernel
theorem okk_113 {q : Nat} {en : Ent} (h : kk_113 q = some en) : okB 113 q en = true := lkp_ok _ _ _ ok_113 h
theorem ok_114 : (k_114.all (fun e => okB 114 e.1 e.2)) = true := by decide +kernel
theorem okk_114 {q : Nat} {en : Ent} (h : kk_114 q = some en) : okB 114 q en = true := lkp_ok _ _ _ ok_114 h
theorem ok_115 : (k_115.all (fun e => okB 115 e.1 e.2)) = true := by decide +kernel
theorem okk_115 {q : Nat} {en : Ent} (h : kk_115 q = some en) : okB 115 q en = true := lkp_ok _ _ _ ok_115 h
theorem ok_116 : (k_116.all (fun e => okB 116 e.1 e.2)) = true := by decide +kernel
theorem okk_116 {q : Nat} {en : Ent} (h : kk_116 q = some en) : okB 116 q en = true := lkp_ok _ _ _ ok_116 h
theorem ok_117 : (k_117.all (fun e => okB 117 e.1 e.2)) = true := by decide +kernel
theorem okk_117 {q : Nat} {en : Ent} (h : kk_117 q = some en) : okB 117 q en = true := lkp_ok _ _ _ ok_117 h
theorem ok_118 : (k_118.all (fun e => okB 118 e.1 e.2)) = true := by decide +kernel
theorem okk_118 {q : Nat} {en : Ent} (h : kk_118 q = some en) : okB 118 q en = true := lkp_ok _ _ _ ok_118 h
theorem ok_119 : (k_119.all (fun e => okB 119 e.1 e.2)) = true := by decide +kernel
theorem okk_119 {q : Nat} {en : Ent} (h : kk_119 q = some en) : okB 119 q en = true := lkp_ok _ _ _ ok_119 h
theorem ok_120 : (k_120.all (fun e => okB 120 e.1 e.2)) = true := by decide +kernel
theorem okk_120 {q : Nat} {en : Ent} (h : kk_120 q = some en) : okB 120 q en = true := lkp_ok _ _ _ ok_120 h
theorem ok_121 : (k_121.all (fun e => okB 121 e.1 e.2)) = true := by decide +kernel
theorem okk_121 {q : Nat} {en : Ent} (h : kk_121 q = some en) : okB 121 q en = true := lkp_ok _ _ _ ok_121 h
theorem ok_122 : (k_122.all (fun e => okB 122 e.1 e.2)) = true := by decide +kernel
theorem okk_122 {q : Nat} {en : Ent} (h : kk_122 q = some en) : okB 122 q en = true := lkp_ok _ _ _ ok_122 h
theorem ok_124 : (k_124.all (fun e => okB 124 e.1 e.2)) = true := by decide +kernel
theorem okk_124 {q : Nat} {en : Ent} (h : kk_124 q = some en) : okB 124 q en = true := lkp_ok _ _ _ ok_124 h
theorem ok_125 : (k_125.all (fun e => okB 125 e.1 e.2)) = true := by decide +kernel
theorem okk_125 {q : Nat} {en : Ent} (h : kk_125 q = some en) : okB 125 q en = true := lkp_ok _ _ _ ok_125 h
theorem ok_126 : (k_126.all (fun e => okB 126 e.1 e.2)) = true := by decide +kernel
theorem okk_126 {q : Nat} {en : Ent} (h : kk_126 q = some en) : okB 126 q en = true := lkp_ok _ _ _ ok_126 h
theorem ok_127 : (k_127.all (fun e => okB 127 e.1 e.2)) = true := by decide +kernel
theorem okk_127 {q : Nat} {en : Ent} (h : kk_127 q = some en) : okB 127 q en = true := lkp_ok _ _ _ ok_127 h
theorem ok_128 : (k_128.all (fun e => okB 128 e.1 e.2)) = true := by decide +kernel
theorem okk_128 {q : Nat} {en : Ent} (h : kk_128 q = some en) : okB 128 q en = true := lkp_ok _ _ _ ok_128 h
theorem ok_129 : (k_129.all (fun e => okB 129 e.1 e.2)) = true := by decide +kernel
theorem okk_129 {q : Nat} {en : Ent} (h : kk_129 q = some en) : okB 129 q en = true := lkp_ok _ _ _ ok_129 h
theorem ok_132 : (k_132.all (fun e => okB 132 e.1 e.2)) = true := by decide +kernel
theorem okk_132 {q : Nat} {en : Ent} (h : kk_132 q = some en) : okB 132 q en = true := lkp_ok _ _ _ ok_132 h
theorem ok_134 : (k_134.all (fun e => okB 134 e.1 e.2)) = true := by decide +kernel
theorem okk_134 {q : Nat} {en : Ent} (h : kk_134 q = some en) : okB 134 q en = true := lkp_ok _ _ _ ok_134 h
theorem ok_135 : (k_135.all (fun e => okB 135 e.1 e.2)) = true := by decide +kernel
theorem okk_135 {q : Nat} {en : Ent} (h : kk_135 q = some en) : okB 135 q en = true := lkp_ok _ _ _ ok_135 h
theorem ok_136 : (k_136.all (fun e => okB 136 e.1 e.2)) = true := by decide +kernel
theorem okk_136 {q : Nat} {en : Ent} (h : kk_136 q = some en) : okB 136 q en = true := lkp_ok _ _ _ ok_136 h
theorem ok_137 : (k_137.all (fun e => okB 137 e.1 e.2)) = true := by decide +kernel
theorem okk_137 {q : Nat} {en : Ent} (h : kk_137 q = some en) : okB 137 q en = true := lkp_ok _ _ _ ok_137 h
theorem ok_138 : (k_138.all (fun e => okB 138 e.1 e.2)) = true := by decide +kernel
theorem okk_138 {q : Nat} {en : Ent} (h : kk_138 q = some en) : okB 138 q en = true := lkp_ok _ _ _ ok_138 h
theorem ok_139 : (k_139.all (fun e => okB 139 e.1 e.2)) = true := by decide +kernel
theorem okk_139 {q : Nat} {en : Ent} (h : kk_139 q = some en) : okB 139 q en = true := lkp_ok _ _ _ ok_139 h
theorem ok_140 : (k_140.all (fun e => okB 140 e.1 e.2)) = true := by decide +kernel
theorem okk_140 {q : Nat} {en : Ent} (h : kk_140 q = some en) : okB 140 q en = true := lkp_ok _ _ _ ok_140 h
theorem ok_141 : (k_141.all (fun e => okB 141 e.1 e.2)) = true := by decide +kernel
theorem okk_141 {q : Nat} {en : Ent} (h : kk_141 q = some en) : okB 141 q en = true := lkp_ok _ _ _ ok_141 h
theorem ok_142 : (k_142.all (fun e => okB 142 e.1 e.2)) = true := by decide +kernel
theorem okk_142 {q : Nat} {en : Ent} (h : kk_142 q = some en) : okB 142 q en = true := lkp_ok _ _ _ ok_142 h
theorem ok_143 : (k_143.all (fun e => okB 143 e.1 e.2)) = true := by decide +kernel
theorem okk_143 {q : Nat} {en : Ent} (h : kk_143 q = some en) : okB 143 q en = true := lkp_ok _ _ _ ok_143 h
theorem ok_144 : (k_144.all (fun e => okB 144 e.1 e.2)) = true := by decide +kernel
theorem okk_144 {q : Nat} {en : Ent} (h : kk_144 q = some en) : okB 144 q en = true := lkp_ok _ _ _ ok_144 h
theorem ok_145 : (k_145.all (fun e => okB 145 e.1 e.2)) = true := by decide +kernel
theorem okk_145 {q : Nat} {en : Ent} (h : kk_145 q = some en) : okB 145 q en = true := lkp_ok _ _ _ ok_145 h
theorem ok_146 : (k_146.all (fun e => okB 146 e.1 e.2)) = true := by decide +kernel
theorem okk_146 {q : Nat} {en : Ent} (h : kk_146 q = some en) : okB 146 q en = true := lkp_ok _ _ _ ok_146 h
theorem ok_148 : (k_148.all (fun e => okB 148 e.1 e.2)) = true := by decide +kernel
theorem okk_148 {q : Nat} {en : Ent} (h : kk_148 q = some en) : okB 148 q en = true := lkp_ok _ _ _ ok_148 h
theorem ok_149 : (k_149.all (fun e => okB 149 e.1 e.2)) = true := by decide +kernel
theorem okk_149 {q : Nat} {en : Ent} (h : kk_149 q = some en) : okB 149 q en = true := lkp_ok _ _ _ ok_149 h
theorem ok_150 : (k_150.all (fun e => okB 150 e.1 e.2)) = true := by decide +kernel
theorem okk_150 {q : Nat} {en : Ent} (h : kk_150 q = some en) : okB 150 q en = true := lkp_ok _ _ _ ok_150 h
theorem ok_151 : (k_151.all (fun e => okB 151 e.1 e.2)) = true := by decide +kernel
theorem okk_151 {q : Nat} {en : Ent} (h : kk_151 q = some en) : okB 151 q en = true := lkp_ok _ _ _ ok_151 h
theorem ok_152 : (k_152.all (fun e => okB 152 e.1 e.2)) = true := by decide +kernel
theorem okk_152 {q : Nat} {en : Ent} (h : kk_152 q = some en) : okB 152 q en = true := lkp_ok _ _ _ ok_152 h
theorem ok_153 : (k_153.all (fun e => okB 153 e.1 e.2)) = true := by decide +kernel
theorem okk_153 {q : Nat} {en : Ent} (h : kk_153 q = some en) : okB 153 q en = true := lkp_ok _ _ _ ok_153 h
theorem ok_154 : (k_154.all (fun e => okB 154 e.1 e.2)) = true := by decide +kernel
theorem okk_154 {q : Nat} {en : Ent} (h : kk_154 q = some en) : okB 154 q en = true := lkp_ok _ _ _ ok_154 h
theorem ok_156 : (k_156.all (fun e => okB 156 e.1 e.2)) = true := by decide +kernel
theorem okk_156 {q : Nat} {en : Ent} (h : kk_156 q = some en) : okB 156 q en = true := lkp_ok _ _ _ ok_156 h
theorem ok_157 : (k_157.all (fun e => okB 157 e.1 e.2)) = true := by decide +kernel
theorem okk_157 {q : Nat} {en : Ent} (h : kk_157 q = some en) : okB 157 q en = true := lkp_ok _ _ _ ok_157 h
theorem ok_158 : (k_158.all (fun e => okB 158 e.1 e.2)) = true := by decide +kernel
theorem okk_158 {q : Nat} {en : Ent} (h : kk_158 q = some en) : okB 158 q en = true := lkp_ok _ _ _ ok_158 h
theorem ok_159 : (k_159.all (fun e => okB 159 e.1 e.2)) = true := by decide +kernel
theorem okk_159 {q : Nat} {en : Ent} (h : kk_159 q = some en) : okB 159 q en = true := lkp_ok _ _ _ ok_159 h
theorem ok_160 : (k_160.all (fun e => okB 160 e.1 e.2)) = true := by decide +kernel
theorem okk_160 {q : Nat} {en : Ent} (h : kk_160 q = some en) : okB 160 q en = true := lkp_ok _ _ _ ok_160 h
theorem ok_161 : (k_161.all (fun e => okB 161 e.1 e.2)) = true := by decide +kernel
theorem okk_161 {q : Nat} {en : Ent} (h : kk_161 q = some en) : okB 161 q en = true := lkp_ok _ _ _ ok_161 h
theorem ok_162 : (k_162.all (fun e => okB 162 e.1 e.2)) = true := by decide +kernel
theorem okk_162 {q : Nat} {en : Ent} (h : kk_162 q = some en) : okB 162 q en = true := lkp_ok _ _ _ ok_162 h
theorem ok_164 : (k_164.all (fun e => okB 164 e.1 e.2)) = true := by decide +kernel
theorem okk_164 {q : Nat} {en : Ent} (h : kk_164 q = some en) : okB 164 q en = true := lkp_ok _ _ _ ok_164 h
theorem ok_165 : (k_165.all (fun e => okB 165 e.1 e.2)) = true := by decide +kernel
theorem okk_165 {q : Nat} {en : Ent} (h : kk_165 q = some en) : okB 165 q en = true := lkp_ok _ _ _ ok_165 h
theorem ok_166 : (k_166.all (fun e => okB 166 e.1 e.2)) = true := by decide +kernel
theorem okk_166 {q : Nat} {en : Ent} (h : kk_166 q = some en) : okB 166 q en = true := lkp_ok _ _ _ ok_166 h
theorem ok_167 : (k_167.all (fun e => okB 167 e.1 e.2)) = true := by decide +kernel
theorem okk_167 {q : Nat} {en : Ent} (h : kk_167 q = some en) : okB 167 q en = true := lkp_ok _ _ _ ok_167 h
theorem ok_168 : (k_168.all (fun e => okB 168 e.1 e.2)) = true := by decide +kernel
theorem okk_168 {q : Nat} {en : Ent} (h : kk_168 q = some en) : okB 168 q en = true := lkp_ok _ _ _ ok_168 h
theorem ok_169 : (k_169.all (fun e => okB 169 e.1 e.2)) = true := by decide +kernel
theorem okk_169 {q : Nat} {en : Ent} (h : kk_169 q = some en) : okB 169 q en = true := lkp_ok _ _ _ ok_169 h
theorem ok_171 : (k_171.all (fun e => okB 171 e.1 e.2)) = true := by decide +kernel
theorem okk_171 {q : Nat} {en : Ent} (h : kk_171 q = some en) : okB 171 q en = true := lkp_ok _ _ _ ok_171 h
theorem ok_172 : (k_172.all (fun e => okB 172 e.1 e.2)) = true := by decide +kernel
theorem okk_172 {q : Nat} {en : Ent} (h : kk_172 q = some en) : okB 172 q en = true := lkp_ok _ _ _ ok_172 h
theorem ok_173 : (k_173.all (fun e => okB 173 e.1 e.2)) = true := by decide +kernel
theorem okk_173 {q : Nat} {en : Ent} (h : kk_173 q = some en) : okB 173 q en = true := lkp_ok _ _ _ ok_173 h
theorem ok_174 : (k_174.all (fun e => okB 174 e.1 e.2)) = true := by decide +kernel
theorem okk_174 {q : Nat} {en : Ent} (h : kk_174 q = some en) : okB 174 q en = true := lkp_ok _ _ _ ok_174 h
theorem ok_176 : (k_176.all (fun e => okB 176 e.1 e.2)) = true := by decide +kernel
theorem okk_176 {q : Nat} {en : Ent} (h : kk_176 q = some en) : okB 176 q en = true := lkp_ok _ _ _ ok_176 h
theorem ok_177 : (k_177.all (fun e => okB 177 e.1 e.2)) = true := by decide +kernel
theorem okk_177 {q : Nat} {en : Ent} (h : kk_177 q = some en) : okB 177 q en = true := lkp_ok _ _ _ ok_177 h
theorem ok_178 : (k_178.all (fun e => okB 178 e.1 e.2)) = true := by decide +kernel
theorem okk_178 {q : Nat} {en : Ent} (h : kk_178 q = some en) : okB 178 q en = true := lkp_ok _ _ _ ok_178 h
theorem ok_179 : (k_179.all (fun e => okB 179 e.1 e.2)) = true := by decide +kernel
theorem okk_179 {q : Nat} {en : Ent} (h : kk_179 q = some en) : okB 179 q en = true := lkp_ok _ _ _ ok_179 h
theorem ok_180 : (k_180.all (fun e => okB 180 e.1 e.2)) = true := by decide +kernel
theorem okk_180 {q : Nat} {en : Ent} (h : kk_180 q = some en) : okB 180 q en = true := lkp_ok _ _ _ ok_180 h
theorem ok_181 : (k_181.all (fun e => okB 181 e.1 e.2)) = true := by decide +kernel
theorem okk_181 {q : Nat} {en : Ent} (h : kk_181 q = some en) : okB 181 q en = true := lkp_ok _ _ _ ok_181 h
theorem ok_182 : (k_182.all (fun e => okB 182 e.1 e.2)) = true := by decide +kernel
theorem okk_182 {q : Nat} {en : Ent} (h : kk_182 q = some en) : okB 182 q en = true := lkp_ok _ _ _ ok_182 h
theorem ok_183 : (k_183.all (fun e => okB 183 e.1 e.2)) = true := by decide +kernel
theorem okk_183 {q : Nat} {en : Ent} (h : kk_183 q = some en) : okB 183 q en = true := lkp_ok _ _ _ ok_183 h
theorem ok_184 : (k_184.all (fun e => okB 184 e.1 e.2)) = true := by decide +kernel
theorem okk_184 {q : Nat} {en : Ent} (h : kk_184 q = some en) : okB 184 q en = true := lkp_ok _ _ _ ok_184 h
theorem ok_185 : (k_185.all (fun e => okB 185 e.1 e.2)) = true := by decide +kernel
theorem okk_185 {q : Nat} {en : Ent} (h : kk_185 q = some en) : okB 185 q en = true := lkp_ok _ _ _ ok_185 h
theorem ok_186 : (k_186.all (fun e => okB 186 e.1 e.2)) = true := by decide +kernel
theorem okk_186 {q : Nat} {en : Ent} (h : kk_186 q = some en) : okB 186 q en = true := lkp_ok _ _ _ ok_186 h
theorem ok_187 : (k_187.all (fun e => okB 187 e.1 e.2)) = true := by decide +kernel
theorem okk_187 {q : Nat} {en : Ent} (h : kk_187 q = some en) : okB 187 q en = true := lkp_ok _ _ _ ok_187 h
theorem ok_188 : (k_188.all (fun e => okB 188 e.1 e.2)) = true := by decide +kernel
theorem okk_188 {q : Nat} {en : Ent} (h : kk_188 q = some en) : okB 188 q en = true := lkp_ok _ _ _ ok_188 h
theorem ok_189 : (k_189.all (fun e => okB 189 e.1 e.2)) = true := by decide +kernel
theorem okk_189 {q : Nat} {en : Ent} (h : kk_189 q = some en) : okB 189 q en = true := lkp_ok _ _ _ ok_189 h
theorem ok_190 : (k_190.all (fun e => okB 190 e.1 e.2)) = true := by decide +kernel
theorem okk_190 {q : Nat} {en : Ent} (h : kk_190 q = some en) : okB 190 q en = true := lkp_ok _ _ _ ok_190 h
theorem ok_191 : (k_191.all (fun e => okB 191 e.1 e.2)) = true := by decide +kernel
theorem okk_191 {q : Nat} {en : Ent} (h : kk_191 q = some en) : okB 191 q en = true := lkp_ok _ _ _ ok_191 h
theorem ok_192 : (k_192.all (fun e => okB 192 e.1 e.2)) = true := by decide +kernel
theorem okk_192 {q : Nat} {en : Ent} (h : kk_192 q = some en) : okB 192 q en = true := lkp_ok _ _ _ ok_192 h
theorem ok_193 : (k_193.all (fun e => okB 193 e.1 e.2)) = true := by decide +kernel
theorem okk_193 {q : Nat} {en : Ent} (h : kk_193 q = some en) : okB 193 q en = true := lkp_ok _ _ _ ok_193 h
theorem ok_194 : (k_194.all (fun e => okB 194 e.1 e.2)) = true := by decide +kernel
theorem okk_194 {q : Nat} {en : Ent} (h : kk_194 q = some en) : okB 194 q en = true := lkp_ok _ _ _ ok_194 h
theorem ok_195 : (k_195.all (fun e => okB 195 e.1 e.2)) = true := by decide +kernel
theorem okk_195 {q : Nat} {en : Ent} (h : kk_195 q = some en) : okB 195 q en = true := lkp_ok _ _ _ ok_195 h
theorem ok_196 : (k_196.all (fun e => okB 196 e.1 e.2)) = true := by decide +kernel
theorem okk_196 {q : Nat} {en : Ent} (h : kk_196 q = some en) : okB 196 q en = true := lkp_ok _ _ _ ok_196 h
theorem ok_197 : (k_197.all (fun e => okB 197 e.1 e.2)) = true := by decide +kernel
theorem okk_197 {q : Nat} {en : Ent} (h : kk_197 q = some en) : okB 197 q en = true := lkp_ok _ _ _ ok_197 h
theorem ok_198 : (k_198.all (fun e => okB 198 e.1 e.2)) = true := by decide +kernel
theorem okk_198 {q : Nat} {en : Ent} (h : kk_198 q = some en) : okB 198 q en = true := lkp_ok _ _ _ ok_198 h
theorem ok_199 : (k_199.all (fun e => okB 199 e.1 e.2)) = true := by decide +kernel
theorem okk_199 {q : Nat} {en : Ent} (h : kk_199 q = some en) : okB 199 q en = true := lkp_ok _ _ _ ok_199 h
theorem ok_200 : (k_200.all (fun e => okB 200 e.1 e.2)) = true := by decide +kernel
theorem okk_200 {q : Nat} {en : Ent} (h : kk_200 q = some en) : okB 200 q en = true := lkp_ok _ _ _ ok_200 h
theorem ok_201 : (k_201.all (fun e => okB 201 e.1 e.2)) = true := by decide +kernel
theorem okk_201 {q : Nat} {en : Ent} (h : kk_201 q = some en) : okB 201 q en = true := lkp_ok _ _ _ ok_201 h
theorem ok_202 : (k_202.all (fun e => okB 202 e.1 e.2)) = true := by decide +kernel
theorem okk_202 {q : Nat} {en : Ent} (h : kk_202 q = some en) : okB 202 q en = true := lkp_ok _ _ _ ok_202 h
theorem ok_203 : (k_203.all (fun e => okB 203 e.1 e.2)) = true := by decide +kernel
theorem okk_203 {q : Nat} {en : Ent} (h : kk_203 q = some en) : okB 203 q en = true := lkp_ok _ _ _ ok_203 h
theorem ok_204 : (k_204.all (fun e => okB 204 e.1 e.2)) = true := by decide +kernel
theorem okk_204 {q : Nat} {en : Ent} (h : kk_204 q = some en) : okB 204 q en = true := lkp_ok _ _ _ ok_204 h
theorem ok_205 : (k_205.all (fun e => okB 205 e.1 e.2)) = true := by decide +kernel
theorem okk_205 {q : Nat} {en : Ent} (h : kk_205 q = some en) : okB 205 q en = true := lkp_ok _ _ _ ok_205 h
theorem ok_206 : (k_206.all (fun e => okB 206 e.1 e.2)) = true := by decide +kernel
theorem okk_206 {q : Nat} {en : Ent} (h : kk_206 q = some en) : okB 206 q en = true := lkp_ok _ _ _ ok_206 h
theorem ok_207 : (k_207.all (fun e => okB 207 e.1 e.2)) = true := by decide +kernel
theorem okk_207 {q : Nat} {en : Ent} (h : kk_207 q = some en) : okB 207 q en = true := lkp_ok _ _ _ ok_207 h
theorem ok_208 : (k_208.all (fun e => okB 208 e.1 e.2)) = true := by decide +kernel
theorem okk_208 {q : Nat} {en : Ent} (h : kk_208 q = some en) : okB 208 q en = true := lkp_ok _ _ _ ok_208 h
theorem ok_209 : (k_209.all (fun e => okB 209 e.1 e.2)) = true := by decide +kernel
theorem okk_209 {q : Nat} {en : Ent} (h : kk_209 q = some en) : okB 209 q en = true := lkp_ok _ _ _ ok_209 h
theorem ok_210 : (k_210.all (fun e => okB 210 e.1 e.2)) = true := by decide +kernel
theorem okk_210 {q : Nat} {en : Ent} (h : kk_210 q = some en) : okB 210 q en = true := lkp_ok _ _ _ ok_210 h
theorem ok_211 : (k_211.all (fun e => okB 211 e.1 e.2)) = true := by decide +kernel
theorem okk_211 {q : Nat} {en : Ent} (h : kk_211 q = some en) : okB 211 q en = true := lkp_ok _ _ _ ok_211 h
theorem ok_212_0 : (k_212_0.all (fun e => okB 212 e.1 e.2)) = true := by decide +kernel
theorem ok_212_1 : (k_212_1.all (fun e => okB 212 e.1 e.2)) = true := by decide +kernel
theorem ok_212_2 : (k_212_2.all (fun e => okB 212 e.1 e.2)) = true := by decide +kernel
theorem okk_212 {q : Nat} {en : Ent} (h : kk_212 q = some en) : okB 212 q en = true := bif_lt h (fun _ h => lkp_ok _ _ _ ok_212_0 h) (fun _ h => bif_lt h (fun _ h => lkp_ok _ _ _ ok_212_1 h) (fun _ h => lkp_ok _ _ _ ok_212_2 h))
theorem ok_213 : (k_213.all (fun e => okB 213 e.1 e.2)) = true := by decide +kernel
theorem okk_213 {q : Nat} {en : Ent} (h : kk_213 q = some en) : okB 213 q en = true := lkp_ok _ _ _ ok_213 h
theorem ok_214 : (k_214.all (fun e => okB 214 e.1 e.2)) = true := by decide +kernel
theorem okk_214 {q : Nat} {en : Ent} (h : kk_214 q = some en) : okB 214 q en = true := lkp_ok _ _ _ ok_214 h
theorem cd_ok {mi q : Nat} {en : Ent} (hm : mi < 215) (h : cd mi q = some en) : okB mi q en = true := bif_lt h (fun g107 h => bif_lt h (fun g53 h => bif_lt h (fun g26 h => bif_lt h (fun g13 h => bif_lt h (fun g6 h => bif_lt h (fun g3 h => bif_lt h (fun g1 h => (by have e : mi = 0 := Nat.le_antisymm (Nat.le_of_lt_succ g1) (Nat.zero_le _); subst e; exact okk_0 h)) (fun h1 h => bif_lt h (fun g2 h => (by have e : mi = 1 := Nat.le_antisymm (Nat.le_of_lt_succ g2) (h1); subst e; exact okk_1 h)) (fun h2 h => (by have e : mi = 2 := Nat.le_antisymm (Nat.le_of_lt_succ g3) (h2); subst e; exact okk_2 h)))) (fun h3 h => bif_lt h (fun g4 h => (by have e : mi = 3 := Nat.le_antisymm (Nat.le_of_lt_succ g4) (h3); subst e; exact okk_3 h)) (fun h4 h => bif_lt h (fun g5 h => (by have e : mi = 4 := Nat.le_antisymm (Nat.le_of_lt_succ g5) (h4); subst e; exact okk_4 h)) (fun h5 h => (by have e : mi = 5 := Nat.le_antisymm (Nat.le_of_lt_succ g6) (h5); subst e; exact okk_5 h))))) (fun h6 h => bif_lt h (fun g9 h => bif_lt h (fun g7 h => (by have e : mi = 6 := Nat.le_antisymm (Nat.le_of_lt_succ g7) (h6); subst e; exact okk_6 h)) (fun h7 h => bif_lt h (fun g8 h => (by have e : mi = 7 := Nat.le_antisymm (Nat.le_of_lt_succ g8) (h7); subst e; exact okk_7 h)) (fun h8 h => (by have e : mi = 8 := Nat.le_antisymm (Nat.le_of_lt_succ g9) (h8); subst e; exact okk_8 h)))) (fun h9 h => bif_lt h (fun g11 h => bif_lt h (fun g10 h => (by have e : mi = 9 := Nat.le_antisymm (Nat.le_of_lt_succ g10) (h9); subst e; exact okk_9 h)) (fun h10 h => (by have e : mi = 10 := Nat.le_antisymm (Nat.le_of_lt_succ g11) (h10); subst e; exact okk_10 h))) (fun h11 h => bif_lt h (fun g12 h => (by have e : mi = 11 := Nat.le_antisymm (Nat.le_of_lt_succ g12) (h11); subst e; exact okk_11 h)) (fun h12 h => (by have e : mi = 12 := Nat.le_antisymm (Nat.le_of_lt_succ g13) (h12); subst e; exact okk_12 h)))))) (fun h13 h => bif_lt h (fun g19 h => bif_lt h (fun g16 h => bif_lt h (fun g14 h => (by have e : mi = 13 := Nat.le_antisymm (Nat.le_of_lt_succ g14) (h13); subst e; exact okk_13 h)) (fun h14 h => bif_lt h (fun g15 h => (by have e : mi = 14 := Nat.le_antisymm (Nat.le_of_lt_succ g15) (h14); subst e; exact okk_14 h)) (fun h15 h => (by have e : mi = 15 := Nat.le_antisymm (Nat.le_of_lt_succ g16) (h15); subst e; exact okk_15 h)))) (fun h16 h => bif_lt h (fun g17 h => (by have e : mi = 16 := Nat.le_antisymm (Nat.le_of_lt_succ g17) (h16); subst e; exact okk_16 h)) (fun h17 h => bif_lt h (fun g18 h => (by have e : mi = 17 := Nat.le_antisymm (Nat.le_of_lt_succ g18) (h17); subst e; exact okk_17 h)) (fun h18 h => (by have e : mi = 18 := Nat.le_antisymm (Nat.le_of_lt_succ g19) (h18); subst e; exact okk_18 h))))) (fun h19 h => bif_lt h (fun g22 h => bif_lt h (fun g20 h => (by have e : mi = 19 := Nat.le_antisymm (Nat.le_of_lt_succ g20) (h19); subst e; exact okk_19 h)) (fun h20 h => bif_lt h (fun g21 h => (by have e : mi = 20 := Nat.le_antisymm (Nat.le_of_lt_succ g21) (h20); subst e; exact okk_20 h)) (fun h21 h => (by have e : mi = 21 := Nat.le_antisymm (Nat.le_of_lt_succ g22) (h21); subst e; exact okk_21 h)))) (fun h22 h => bif_lt h (fun g24 h => bif_lt h (fun g23 h => (by have e : mi = 22 := Nat.le_antisymm (Nat.le_of_lt_succ g23) (h22); subst e; exact okk_22 h)) (fun h23 h => (by have e : mi = 23 := Nat.le_antisymm (Nat.le_of_lt_succ g24) (h23); subst e; exact okk_23 h))) (fun h24 h => bif_lt h (fun g25 h => (by have e : mi = 24 := Nat.le_antisymm (Nat.le_of_lt_succ g25) (h24); subst e; cases h)) (fun h25 h => (by have e : mi = 25 := Nat.le_antisymm (Nat.le_of_lt_succ g26) (h25); subst e; exact okk_25 h))))))) (fun h26 h => bif_lt h (fun g39 h => bif_lt h (fun g32 h => bif_lt h (fun g29 h => bif_lt h (fun g27 h => (by have e : mi = 26 := Nat.le_antisymm (Nat.le_of_lt_succ g27) (h26); subst e; exact okk_26 h)) (fun h27 h => bif_lt h (fun g28 h => (by have e : mi = 27 := Nat.le_antisymm (Nat.le_of_lt_succ g28) (h27); subst e; cases h)) (fun h28 h => (by have e : mi = 28 := Nat.le_antisymm (Nat.le_of_lt_succ g29) (h28); subst e; cases h)))) (fun h29 h => bif_lt h (fun g30 h => (by have e : mi = 29 := Nat.le_antisymm (Nat.le_of_lt_succ g30) (h29); subst e; exact okk_29 h)) (fun h30 h => bif_lt h (fun g31 h => (by have e : mi = 30 := Nat.le_antisymm (Nat.le_of_lt_succ g31) (h30); subst e; exact okk_30 h)) (fun h31 h => (by have e : mi = 31 := Nat.le_antisymm (Nat.le_of_lt_succ g32) (h31); subst e; exact okk_31 h))))) (fun h32 h => bif_lt h (fun g35 h => bif_lt h (fun g33 h => (by have e : mi = 32 := Nat.le_antisymm (Nat.le_of_lt_succ g33) (h32); subst e; exact okk_32 h)) (fun h33 h => bif_lt h (fun g34 h => (by have e : mi = 33 := Nat.le_antisymm (Nat.le_of_lt_succ g34) (h33); subst e; exact okk_33 h)) (fun h34 h => (by have e : mi = 34 := Nat.le_antisymm (Nat.le_of_lt_succ g35) (h34); subst e; exact okk_34 h)))) (fun h35 h => bif_lt h (fun g37 h => bif_lt h (fun g36 h => (by have e : mi = 35 := Nat.le_antisymm (Nat.le_of_lt_succ g36) (h35); subst e; exact okk_35 h)) (fun h36 h => (by have e : mi = 36 := Nat.le_antisymm (Nat.le_of_lt_succ g37) (h36); subst e; exact okk_36 h))) (fun h37 h => bif_lt h (fun g38 h => (by have e : mi = 37 := Nat.le_antisymm (Nat.le_of_lt_succ g38) (h37); subst e; exact okk_37 h)) (fun h38 h => (by have e : mi = 38 := Nat.le_antisymm (Nat.le_of_lt_succ g39) (h38); subst e; exact okk_38 h)))))) (fun h39 h => bif_lt h (fun g46 h => bif_lt h (fun g42 h => bif_lt h (fun g40 h => (by have e : mi = 39 := Nat.le_antisymm (Nat.le_of_lt_succ g40) (h39); subst e; exact okk_39 h)) (fun h40 h => bif_lt h (fun g41 h => (by have e : mi = 40 := Nat.le_antisymm (Nat.le_of_lt_succ g41) (h40); subst e; exact okk_40 h)) (fun h41 h => (by have e : mi = 41 := Nat.le_antisymm (Nat.le_of_lt_succ g42) (h41); subst e; exact okk_41 h)))) (fun h42 h => bif_lt h (fun g44 h => bif_lt h (fun g43 h => (by have e : mi = 42 := Nat.le_antisymm (Nat.le_of_lt_succ g43) (h42); subst e; exact okk_42 h)) (fun h43 h => (by have e : mi = 43 := Nat.le_antisymm (Nat.le_of_lt_succ g44) (h43); subst e; exact okk_43 h))) (fun h44 h => bif_lt h (fun g45 h => (by have e : mi = 44 := Nat.le_antisymm (Nat.le_of_lt_succ g45) (h44); subst e; exact okk_44 h)) (fun h45 h => (by have e : mi = 45 := Nat.le_antisymm (Nat.le_of_lt_succ g46) (h45); subst e; exact okk_45 h))))) (fun h46 h => bif_lt h (fun g49 h => bif_lt h (fun g47 h => (by have e : mi = 46 := Nat.le_antisymm (Nat.le_of_lt_succ g47) (h46); subst e; exact okk_46 h)) (fun h47 h => bif_lt h (fun g48 h => (by have e : mi = 47 := Nat.le_antisymm (Nat.le_of_lt_succ g48) (h47); subst e; exact okk_47 h)) (fun h48 h => (by have e : mi = 48 := Nat.le_antisymm (Nat.le_of_lt_succ g49) (h48); subst e; exact okk_48 h)))) (fun h49 h => bif_lt h (fun g51 h => bif_lt h (fun g50 h => (by have e : mi = 49 := Nat.le_antisymm (Nat.le_of_lt_succ g50) (h49); subst e; exact okk_49 h)) (fun h50 h => (by have e : mi = 50 := Nat.le_antisymm (Nat.le_of_lt_succ g51) (h50); subst e; exact okk_50 h))) (fun h51 h => bif_lt h (fun g52 h => (by have e : mi = 51 := Nat.le_antisymm (Nat.le_of_lt_succ g52) (h51); subst e; exact okk_51 h)) (fun h52 h => (by have e : mi = 52 := Nat.le_antisymm (Nat.le_of_lt_succ g53) (h52); subst e; exact okk_52 h)))))))) (fun h53 h => bif_lt h (fun g80 h => bif_lt h (fun g66 h => bif_lt h (fun g59 h => bif_lt h (fun g56 h => bif_lt h (fun g54 h => (by have e : mi = 53 := Nat.le_antisymm (Nat.le_of_lt_succ g54) (h53); subst e; exact okk_53 h)) (fun h54 h => bif_lt h (fun g55 h => (by have e : mi = 54 := Nat.le_antisymm (Nat.le_of_lt_succ g55) (h54); subst e; exact okk_54 h)) (fun h55 h => (by have e : mi = 55 := Nat.le_antisymm (Nat.le_of_lt_succ g56) (h55); subst e; exact okk_55 h)))) (fun h56 h => bif_lt h (fun g57 h => (by have e : mi = 56 := Nat.le_antisymm (Nat.le_of_lt_succ g57) (h56); subst e; exact okk_56 h)) (fun h57 h => bif_lt h (fun g58 h => (by have e : mi = 57 := Nat.le_antisymm (Nat.le_of_lt_succ g58) (h57); subst e; exact okk_57 h)) (fun h58 h => (by have e : mi = 58 := Nat.le_antisymm (Nat.le_of_lt_succ g59) (h58); subst e; exact okk_58 h))))) (fun h59 h => bif_lt h (fun g62 h => bif_lt h (fun g60 h => (by have e : mi = 59 := Nat.le_antisymm (Nat.le_of_lt_succ g60) (h59); subst e; cases h)) (fun h60 h => bif_lt h (fun g61 h => (by have e : mi = 60 := Nat.le_antisymm (Nat.le_of_lt_succ g61) (h60); subst e; exact okk_60 h)) (fun h61 h => (by have e : mi = 61 := Nat.le_antisymm (Nat.le_of_lt_succ g62) (h61); subst e; exact okk_61 h)))) (fun h62 h => bif_lt h (fun g64 h => bif_lt h (fun g63 h => (by have e : mi = 62 := Nat.le_antisymm (Nat.le_of_lt_succ g63) (h62); subst e; exact okk_62 h)) (fun h63 h => (by have e : mi = 63 := Nat.le_antisymm (Nat.le_of_lt_succ g64) (h63); subst e; exact okk_63 h))) (fun h64 h => bif_lt h (fun g65 h => (by have e : mi = 64 := Nat.le_antisymm (Nat.le_of_lt_succ g65) (h64); subst e; exact okk_64 h)) (fun h65 h => (by have e : mi = 65 := Nat.le_antisymm (Nat.le_of_lt_succ g66) (h65); subst e; exact okk_65 h)))))) (fun h66 h => bif_lt h (fun g73 h => bif_lt h (fun g69 h => bif_lt h (fun g67 h => (by have e : mi = 66 := Nat.le_antisymm (Nat.le_of_lt_succ g67) (h66); subst e; exact okk_66 h)) (fun h67 h => bif_lt h (fun g68 h => (by have e : mi = 67 := Nat.le_antisymm (Nat.le_of_lt_succ g68) (h67); subst e; exact okk_67 h)) (fun h68 h => (by have e : mi = 68 := Nat.le_antisymm (Nat.le_of_lt_succ g69) (h68); subst e; exact okk_68 h)))) (fun h69 h => bif_lt h (fun g71 h => bif_lt h (fun g70 h => (by have e : mi = 69 := Nat.le_antisymm (Nat.le_of_lt_succ g70) (h69); subst e; exact okk_69 h)) (fun h70 h => (by have e : mi = 70 := Nat.le_antisymm (Nat.le_of_lt_succ g71) (h70); subst e; exact okk_70 h))) (fun h71 h => bif_lt h (fun g72 h => (by have e : mi = 71 := Nat.le_antisymm (Nat.le_of_lt_succ g72) (h71); subst e; exact okk_71 h)) (fun h72 h => (by have e : mi = 72 := Nat.le_antisymm (Nat.le_of_lt_succ g73) (h72); subst e; exact okk_72 h))))) (fun h73 h => bif_lt h (fun g76 h => bif_lt h (fun g74 h => (by have e : mi = 73 := Nat.le_antisymm (Nat.le_of_lt_succ g74) (h73); subst e; exact okk_73 h)) (fun h74 h => bif_lt h (fun g75 h => (by have e : mi = 74 := Nat.le_antisymm (Nat.le_of_lt_succ g75) (h74); subst e; exact okk_74 h)) (fun h75 h => (by have e : mi = 75 := Nat.le_antisymm (Nat.le_of_lt_succ g76) (h75); subst e; exact okk_75 h)))) (fun h76 h => bif_lt h (fun g78 h => bif_lt h (fun g77 h => (by have e : mi = 76 := Nat.le_antisymm (Nat.le_of_lt_succ g77) (h76); subst e; exact okk_76 h)) (fun h77 h => (by have e : mi = 77 := Nat.le_antisymm (Nat.le_of_lt_succ g78) (h77); subst e; exact okk_77 h))) (fun h78 h => bif_lt h (fun g79 h => (by have e : mi = 78 := Nat.le_antisymm (Nat.le_of_lt_succ g79) (h78); subst e; exact okk_78 h)) (fun h79 h => (by have e : mi = 79 := Nat.le_antisymm (Nat.le_of_lt_succ g80) (h79); subst e; exact okk_79 h))))))) (fun h80 h => bif_lt h (fun g93 h => bif_lt h (fun g86 h => bif_lt h (fun g83 h => bif_lt h (fun g81 h => (by have e : mi = 80 := Nat.le_antisymm (Nat.le_of_lt_succ g81) (h80); subst e; exact okk_80 h)) (fun h81 h => bif_lt h (fun g82 h => (by have e : mi = 81 := Nat.le_antisymm (Nat.le_of_lt_succ g82) (h81); subst e; exact okk_81 h)) (fun h82 h => (by have e : mi = 82 := Nat.le_antisymm (Nat.le_of_lt_succ g83) (h82); subst e; exact okk_82 h)))) (fun h83 h => bif_lt h (fun g84 h => (by have e : mi = 83 := Nat.le_antisymm (Nat.le_of_lt_succ g84) (h83); subst e; exact okk_83 h)) (fun h84 h => bif_lt h (fun g85 h => (by have e : mi = 84 := Nat.le_antisymm (Nat.le_of_lt_succ g85) (h84); subst e; exact okk_84 h)) (fun h85 h => (by have e : mi = 85 := Nat.le_antisymm (Nat.le_of_lt_succ g86) (h85); subst e; exact okk_85 h))))) (fun h86 h => bif_lt h (fun g89 h => bif_lt h (fun g87 h => (by have e : mi = 86 := Nat.le_antisymm (Nat.le_of_lt_succ g87) (h86); subst e; exact okk_86 h)) (fun h87 h => bif_lt h (fun g88 h => (by have e : mi = 87 := Nat.le_antisymm (Nat.le_of_lt_succ g88) (h87); subst e; exact okk_87 h)) (fun h88 h => (by have e : mi = 88 := Nat.le_antisymm (Nat.le_of_lt_succ g89) (h88); subst e; exact okk_88 h)))) (fun h89 h => bif_lt h (fun g91 h => bif_lt h (fun g90 h => (by have e : mi = 89 := Nat.le_antisymm (Nat.le_of_lt_succ g90) (h89); subst e; exact okk_89 h)) (fun h90 h => (by have e : mi = 90 := Nat.le_antisymm (Nat.le_of_lt_succ g91) (h90); subst e; exact okk_90 h))) (fun h91 h => bif_lt h (fun g92 h => (by have e : mi = 91 := Nat.le_antisymm (Nat.le_of_lt_succ g92) (h91); subst e; exact okk_91 h)) (fun h92 h => (by have e : mi = 92 := Nat.le_antisymm (Nat.le_of_lt_succ g93) (h92); subst e; exact okk_92 h)))))) (fun h93 h => bif_lt h (fun g100 h => bif_lt h (fun g96 h => bif_lt h (fun g94 h => (by have e : mi = 93 := Nat.le_antisymm (Nat.le_of_lt_succ g94) (h93); subst e; exact okk_93 h)) (fun h94 h => bif_lt h (fun g95 h => (by have e : mi = 94 := Nat.le_antisymm (Nat.le_of_lt_succ g95) (h94); subst e; exact okk_94 h)) (fun h95 h => (by have e : mi = 95 := Nat.le_antisymm (Nat.le_of_lt_succ g96) (h95); subst e; exact okk_95 h)))) (fun h96 h => bif_lt h (fun g98 h => bif_lt h (fun g97 h => (by have e : mi = 96 := Nat.le_antisymm (Nat.le_of_lt_succ g97) (h96); subst e; exact okk_96 h)) (fun h97 h => (by have e : mi = 97 := Nat.le_antisymm (Nat.le_of_lt_succ g98) (h97); subst e; exact okk_97 h))) (fun h98 h => bif_lt h (fun g99 h => (by have e : mi = 98 := Nat.le_antisymm (Nat.le_of_lt_succ g99) (h98); subst e; exact okk_98 h)) (fun h99 h => (by have e : mi = 99 := Nat.le_antisymm (Nat.le_of_lt_succ g100) (h99); subst e; exact okk_99 h))))) (fun h100 h => bif_lt h (fun g103 h => bif_lt h (fun g101 h => (by have e : mi = 100 := Nat.le_antisymm (Nat.le_of_lt_succ g101) (h100); subst e; exact okk_100 h)) (fun h101 h => bif_lt h (fun g102 h => (by have e : mi = 101 := Nat.le_antisymm (Nat.le_of_lt_succ g102) (h101); subst e; exact okk_101 h)) (fun h102 h => (by have e : mi = 102 := Nat.le_antisymm (Nat.le_of_lt_succ g103) (h102); subst e; exact okk_102 h)))) (fun h103 h => bif_lt h (fun g105 h => bif_lt h (fun g104 h => (by have e : mi = 103 := Nat.le_antisymm (Nat.le_of_lt_succ g104) (h103); subst e; exact okk_103 h)) (fun h104 h => (by have e : mi = 104 := Nat.le_antisymm (Nat.le_of_lt_succ g105) (h104); subst e; exact okk_104 h))) (fun h105 h => bif_lt h (fun g106 h => (by have e : mi = 105 := Nat.le_antisymm (Nat.le_of_lt_succ g106) (h105); subst e; exact okk_105 h)) (fun h106 h => (by have e : mi = 106 := Nat.le_antisymm (Nat.le_of_lt_succ g107) (h106); subst e; exact okk_106 h))))))))) (fun h107 h => bif_lt h (fun g161 h => bif_lt h (fun g134 h => bif_lt h (fun g120 h => bif_lt h (fun g113 h => bif_lt h (fun g110 h => bif_lt h (fun g108 h => (by have e : mi = 107 := Nat.le_antisymm (Nat.le_of_lt_succ g108) (h107); subst e; exact okk_107 h)) (fun h108 h => bif_lt h (fun g109 h => (by have e : mi = 108 := Nat.le_antisymm (Nat.le_of_lt_succ g109) (h108); subst e; exact okk_108 h)) (fun h109 h => (by have e : mi = 109 := Nat.le_antisymm (Nat.le_of_lt_succ g110) (h109); subst e; exact okk_109 h)))) (fun h110 h => bif_lt h (fun g111 h => (by have e : mi = 110 := Nat.le_antisymm (Nat.le_of_lt_succ g111) (h110); subst e; exact okk_110 h)) (fun h111 h => bif_lt h (fun g112 h => (by have e : mi = 111 := Nat.le_antisymm (Nat.le_of_lt_succ g112) (h111); subst e; exact okk_111 h)) (fun h112 h => (by have e : mi = 112 := Nat.le_antisymm (Nat.le_of_lt_succ g113) (h112); subst e; exact okk_112 h))))) (fun h113 h => bif_lt h (fun g116 h => bif_lt h (fun g114 h => (by have e : mi = 113 := Nat.le_antisymm (Nat.le_of_lt_succ g114) (h113); subst e; exact okk_113 h)) (fun h114 h => bif_lt h (fun g115 h => (by have e : mi = 114 := Nat.le_antisymm (Nat.le_of_lt_succ g115) (h114); subst e; exact okk_114 h)) (fun h115 h => (by have e : mi = 115 := Nat.le_antisymm (Nat.le_of_lt_succ g116) (h115); subst e; exact okk_115 h)))) (fun h116 h => bif_lt h (fun g118 h => bif_lt h (fun g117 h => (by have e : mi = 116 := Nat.le_antisymm (Nat.le_of_lt_succ g117) (h116); subst e; exact okk_116 h)) (fun h117 h => (by have e : mi = 117 := Nat.le_antisymm (Nat.le_of_lt_succ g118) (h117); subst e; exact okk_117 h))) (fun h118 h => bif_lt h (fun g119 h => (by have e : mi = 118 := Nat.le_antisymm (Nat.le_of_lt_succ g119) (h118); subst e; exact okk_118 h)) (fun h119 h => (by have e : mi = 119 := Nat.le_antisymm (Nat.le_of_lt_succ g120) (h119); subst e; exact okk_119 h)))))) (fun h120 h => bif_lt h (fun g127 h => bif_lt h (fun g123 h => bif_lt h (fun g121 h => (by have e : mi = 120 := Nat.le_antisymm (Nat.le_of_lt_succ g121) (h120); subst e; exact okk_120 h)) (fun h121 h => bif_lt h (fun g122 h => (by have e : mi = 121 := Nat.le_antisymm (Nat.le_of_lt_succ g122) (h121); subst e; exact okk_121 h)) (fun h122 h => (by have e : mi = 122 := Nat.le_antisymm (Nat.le_of_lt_succ g123) (h122); subst e; exact okk_122 h)))) (fun h123 h => bif_lt h (fun g125 h => bif_lt h (fun g124 h => (by have e : mi = 123 := Nat.le_antisymm (Nat.le_of_lt_succ g124) (h123); subst e; cases h)) (fun h124 h => (by have e : mi = 124 := Nat.le_antisymm (Nat.le_of_lt_succ g125) (h124); subst e; exact okk_124 h))) (fun h125 h => bif_lt h (fun g126 h => (by have e : mi = 125 := Nat.le_antisymm (Nat.le_of_lt_succ g126) (h125); subst e; exact okk_125 h)) (fun h126 h => (by have e : mi = 126 := Nat.le_antisymm (Nat.le_of_lt_succ g127) (h126); subst e; exact okk_126 h))))) (fun h127 h => bif_lt h (fun g130 h => bif_lt h (fun g128 h => (by have e : mi = 127 := Nat.le_antisymm (Nat.le_of_lt_succ g128) (h127); subst e; exact okk_127 h)) (fun h128 h => bif_lt h (fun g129 h => (by have e : mi = 128 := Nat.le_antisymm (Nat.le_of_lt_succ g129) (h128); subst e; exact okk_128 h)) (fun h129 h => (by have e : mi = 129 := Nat.le_antisymm (Nat.le_of_lt_succ g130) (h129); subst e; exact okk_129 h)))) (fun h130 h => bif_lt h (fun g132 h => bif_lt h (fun g131 h => (by have e : mi = 130 := Nat.le_antisymm (Nat.le_of_lt_succ g131) (h130); subst e; cases h)) (fun h131 h => (by have e : mi = 131 := Nat.le_antisymm (Nat.le_of_lt_succ g132) (h131); subst e; cases h))) (fun h132 h => bif_lt h (fun g133 h => (by have e : mi = 132 := Nat.le_antisymm (Nat.le_of_lt_succ g133) (h132); subst e; exact okk_132 h)) (fun h133 h => (by have e : mi = 133 := Nat.le_antisymm (Nat.le_of_lt_succ g134) (h133); subst e; cases h))))))) (fun h134 h => bif_lt h (fun g147 h => bif_lt h (fun g140 h => bif_lt h (fun g137 h => bif_lt h (fun g135 h => (by have e : mi = 134 := Nat.le_antisymm (Nat.le_of_lt_succ g135) (h134); subst e; exact okk_134 h)) (fun h135 h => bif_lt h (fun g136 h => (by have e : mi = 135 := Nat.le_antisymm (Nat.le_of_lt_succ g136) (h135); subst e; exact okk_135 h)) (fun h136 h => (by have e : mi = 136 := Nat.le_antisymm (Nat.le_of_lt_succ g137) (h136); subst e; exact okk_136 h)))) (fun h137 h => bif_lt h (fun g138 h => (by have e : mi = 137 := Nat.le_antisymm (Nat.le_of_lt_succ g138) (h137); subst e; exact okk_137 h)) (fun h138 h => bif_lt h (fun g139 h => (by have e : mi = 138 := Nat.le_antisymm (Nat.le_of_lt_succ g139) (h138); subst e; exact okk_138 h)) (fun h139 h => (by have e : mi = 139 := Nat.le_antisymm (Nat.le_of_lt_succ g140) (h139); subst e; exact okk_139 h))))) (fun h140 h => bif_lt h (fun g143 h => bif_lt h (fun g141 h => (by have e : mi = 140 := Nat.le_antisymm (Nat.le_of_lt_succ g141) (h140); subst e; exact okk_140 h)) (fun h141 h => bif_lt h (fun g142 h => (by have e : mi = 141 := Nat.le_antisymm (Nat.le_of_lt_succ g142) (h141); subst e; exact okk_141 h)) (fun h142 h => (by have e : mi = 142 := Nat.le_antisymm (Nat.le_of_lt_succ g143) (h142); subst e; exact okk_142 h)))) (fun h143 h => bif_lt h (fun g145 h => bif_lt h (fun g144 h => (by have e : mi = 143 := Nat.le_antisymm (Nat.le_of_lt_succ g144) (h143); subst e; exact okk_143 h)) (fun h144 h => (by have e : mi = 144 := Nat.le_antisymm (Nat.le_of_lt_succ g145) (h144); subst e; exact okk_144 h))) (fun h145 h => bif_lt h (fun g146 h => (by have e : mi = 145 := Nat.le_antisymm (Nat.le_of_lt_succ g146) (h145); subst e; exact okk_145 h)) (fun h146 h => (by have e : mi = 146 := Nat.le_antisymm (Nat.le_of_lt_succ g147) (h146); subst e; exact okk_146 h)))))) (fun h147 h => bif_lt h (fun g154 h => bif_lt h (fun g150 h => bif_lt h (fun g148 h => (by have e : mi = 147 := Nat.le_antisymm (Nat.le_of_lt_succ g148) (h147); subst e; cases h)) (fun h148 h => bif_lt h (fun g149 h => (by have e : mi = 148 := Nat.le_antisymm (Nat.le_of_lt_succ g149) (h148); subst e; exact okk_148 h)) (fun h149 h => (by have e : mi = 149 := Nat.le_antisymm (Nat.le_of_lt_succ g150) (h149); subst e; exact okk_149 h)))) (fun h150 h => bif_lt h (fun g152 h => bif_lt h (fun g151 h => (by have e : mi = 150 := Nat.le_antisymm (Nat.le_of_lt_succ g151) (h150); subst e; exact okk_150 h)) (fun h151 h => (by have e : mi = 151 := Nat.le_antisymm (Nat.le_of_lt_succ g152) (h151); subst e; exact okk_151 h))) (fun h152 h => bif_lt h (fun g153 h => (by have e : mi = 152 := Nat.le_antisymm (Nat.le_of_lt_succ g153) (h152); subst e; exact okk_152 h)) (fun h153 h => (by have e : mi = 153 := Nat.le_antisymm (Nat.le_of_lt_succ g154) (h153); subst e; exact okk_153 h))))) (fun h154 h => bif_lt h (fun g157 h => bif_lt h (fun g155 h => (by have e : mi = 154 := Nat.le_antisymm (Nat.le_of_lt_succ g155) (h154); subst e; exact okk_154 h)) (fun h155 h => bif_lt h (fun g156 h => (by have e : mi = 155 := Nat.le_antisymm (Nat.le_of_lt_succ g156) (h155); subst e; cases h)) (fun h156 h => (by have e : mi = 156 := Nat.le_antisymm (Nat.le_of_lt_succ g157) (h156); subst e; exact okk_156 h)))) (fun h157 h => bif_lt h (fun g159 h => bif_lt h (fun g158 h => (by have e : mi = 157 := Nat.le_antisymm (Nat.le_of_lt_succ g158) (h157); subst e; exact okk_157 h)) (fun h158 h => (by have e : mi = 158 := Nat.le_antisymm (Nat.le_of_lt_succ g159) (h158); subst e; exact okk_158 h))) (fun h159 h => bif_lt h (fun g160 h => (by have e : mi = 159 := Nat.le_antisymm (Nat.le_of_lt_succ g160) (h159); subst e; exact okk_159 h)) (fun h160 h => (by have e : mi = 160 := Nat.le_antisymm (Nat.le_of_lt_succ g161) (h160); subst e; exact okk_160 h)))))))) (fun h161 h => bif_lt h (fun g188 h => bif_lt h (fun g174 h => bif_lt h (fun g167 h => bif_lt h (fun g164 h => bif_lt h (fun g162 h => (by have e : mi = 161 := Nat.le_antisymm (Nat.le_of_lt_succ g162) (h161); subst e; exact okk_161 h)) (fun h162 h => bif_lt h (fun g163 h => (by have e : mi = 162 := Nat.le_antisymm (Nat.le_of_lt_succ g163) (h162); subst e; exact okk_162 h)) (fun h163 h => (by have e : mi = 163 := Nat.le_antisymm (Nat.le_of_lt_succ g164) (h163); subst e; cases h)))) (fun h164 h => bif_lt h (fun g165 h => (by have e : mi = 164 := Nat.le_antisymm (Nat.le_of_lt_succ g165) (h164); subst e; exact okk_164 h)) (fun h165 h => bif_lt h (fun g166 h => (by have e : mi = 165 := Nat.le_antisymm (Nat.le_of_lt_succ g166) (h165); subst e; exact okk_165 h)) (fun h166 h => (by have e : mi = 166 := Nat.le_antisymm (Nat.le_of_lt_succ g167) (h166); subst e; exact okk_166 h))))) (fun h167 h => bif_lt h (fun g170 h => bif_lt h (fun g168 h => (by have e : mi = 167 := Nat.le_antisymm (Nat.le_of_lt_succ g168) (h167); subst e; exact okk_167 h)) (fun h168 h => bif_lt h (fun g169 h => (by have e : mi = 168 := Nat.le_antisymm (Nat.le_of_lt_succ g169) (h168); subst e; exact okk_168 h)) (fun h169 h => (by have e : mi = 169 := Nat.le_antisymm (Nat.le_of_lt_succ g170) (h169); subst e; exact okk_169 h)))) (fun h170 h => bif_lt h (fun g172 h => bif_lt h (fun g171 h => (by have e : mi = 170 := Nat.le_antisymm (Nat.le_of_lt_succ g171) (h170); subst e; cases h)) (fun h171 h => (by have e : mi = 171 := Nat.le_antisymm (Nat.le_of_lt_succ g172) (h171); subst e; exact okk_171 h))) (fun h172 h => bif_lt h (fun g173 h => (by have e : mi = 172 := Nat.le_antisymm (Nat.le_of_lt_succ g173) (h172); subst e; exact okk_172 h)) (fun h173 h => (by have e : mi = 173 := Nat.le_antisymm (Nat.le_of_lt_succ g174) (h173); subst e; exact okk_173 h)))))) (fun h174 h => bif_lt h (fun g181 h => bif_lt h (fun g177 h => bif_lt h (fun g175 h => (by have e : mi = 174 := Nat.le_antisymm (Nat.le_of_lt_succ g175) (h174); subst e; exact okk_174 h)) (fun h175 h => bif_lt h (fun g176 h => (by have e : mi = 175 := Nat.le_antisymm (Nat.le_of_lt_succ g176) (h175); subst e; cases h)) (fun h176 h => (by have e : mi = 176 := Nat.le_antisymm (Nat.le_of_lt_succ g177) (h176); subst e; exact okk_176 h)))) (fun h177 h => bif_lt h (fun g179 h => bif_lt h (fun g178 h => (by have e : mi = 177 := Nat.le_antisymm (Nat.le_of_lt_succ g178) (h177); subst e; exact okk_177 h)) (fun h178 h => (by have e : mi = 178 := Nat.le_antisymm (Nat.le_of_lt_succ g179) (h178); subst e; exact okk_178 h))) (fun h179 h => bif_lt h (fun g180 h => (by have e : mi = 179 := Nat.le_antisymm (Nat.le_of_lt_succ g180) (h179); subst e; exact okk_179 h)) (fun h180 h => (by have e : mi = 180 := Nat.le_antisymm (Nat.le_of_lt_succ g181) (h180); subst e; exact okk_180 h))))) (fun h181 h => bif_lt h (fun g184 h => bif_lt h (fun g182 h => (by have e : mi = 181 := Nat.le_antisymm (Nat.le_of_lt_succ g182) (h181); subst e; exact okk_181 h)) (fun h182 h => bif_lt h (fun g183 h => (by have e : mi = 182 := Nat.le_antisymm (Nat.le_of_lt_succ g183) (h182); subst e; exact okk_182 h)) (fun h183 h => (by have e : mi = 183 := Nat.le_antisymm (Nat.le_of_lt_succ g184) (h183); subst e; exact okk_183 h)))) (fun h184 h => bif_lt h (fun g186 h => bif_lt h (fun g185 h => (by have e : mi = 184 := Nat.le_antisymm (Nat.le_of_lt_succ g185) (h184); subst e; exact okk_184 h)) (fun h185 h => (by have e : mi = 185 := Nat.le_antisymm (Nat.le_of_lt_succ g186) (h185); subst e; exact okk_185 h))) (fun h186 h => bif_lt h (fun g187 h => (by have e : mi = 186 := Nat.le_antisymm (Nat.le_of_lt_succ g187) (h186); subst e; exact okk_186 h)) (fun h187 h => (by have e : mi = 187 := Nat.le_antisymm (Nat.le_of_lt_succ g188) (h187); subst e; exact okk_187 h))))))) (fun h188 h => bif_lt h (fun g201 h => bif_lt h (fun g194 h => bif_lt h (fun g191 h => bif_lt h (fun g189 h => (by have e : mi = 188 := Nat.le_antisymm (Nat.le_of_lt_succ g189) (h188); subst e; exact okk_188 h)) (fun h189 h => bif_lt h (fun g190 h => (by have e : mi = 189 := Nat.le_antisymm (Nat.le_of_lt_succ g190) (h189); subst e; exact okk_189 h)) (fun h190 h => (by have e : mi = 190 := Nat.le_antisymm (Nat.le_of_lt_succ g191) (h190); subst e; exact okk_190 h)))) (fun h191 h => bif_lt h (fun g192 h => (by have e : mi = 191 := Nat.le_antisymm (Nat.le_of_lt_succ g192) (h191); subst e; exact okk_191 h)) (fun h192 h => bif_lt h (fun g193 h => (by have e : mi = 192 := Nat.le_antisymm (Nat.le_of_lt_succ g193) (h192); subst e; exact okk_192 h)) (fun h193 h => (by have e : mi = 193 := Nat.le_antisymm (Nat.le_of_lt_succ g194) (h193); subst e; exact okk_193 h))))) (fun h194 h => bif_lt h (fun g197 h => bif_lt h (fun g195 h => (by have e : mi = 194 := Nat.le_antisymm (Nat.le_of_lt_succ g195) (h194); subst e; exact okk_194 h)) (fun h195 h => bif_lt h (fun g196 h => (by have e : mi = 195 := Nat.le_antisymm (Nat.le_of_lt_succ g196) (h195); subst e; exact okk_195 h)) (fun h196 h => (by have e : mi = 196 := Nat.le_antisymm (Nat.le_of_lt_succ g197) (h196); subst e; exact okk_196 h)))) (fun h197 h => bif_lt h (fun g199 h => bif_lt h (fun g198 h => (by have e : mi = 197 := Nat.le_antisymm (Nat.le_of_lt_succ g198) (h197); subst e; exact okk_197 h)) (fun h198 h => (by have e : mi = 198 := Nat.le_antisymm (Nat.le_of_lt_succ g199) (h198); subst e; exact okk_198 h))) (fun h199 h => bif_lt h (fun g200 h => (by have e : mi = 199 := Nat.le_antisymm (Nat.le_of_lt_succ g200) (h199); subst e; exact okk_199 h)) (fun h200 h => (by have e : mi = 200 := Nat.le_antisymm (Nat.le_of_lt_succ g201) (h200); subst e; exact okk_200 h)))))) (fun h201 h => bif_lt h (fun g208 h => bif_lt h (fun g204 h => bif_lt h (fun g202 h => (by have e : mi = 201 := Nat.le_antisymm (Nat.le_of_lt_succ g202) (h201); subst e; exact okk_201 h)) (fun h202 h => bif_lt h (fun g203 h => (by have e : mi = 202 := Nat.le_antisymm (Nat.le_of_lt_succ g203) (h202); subst e; exact okk_202 h)) (fun h203 h => (by have e : mi = 203 := Nat.le_antisymm (Nat.le_of_lt_succ g204) (h203); subst e; exact okk_203 h)))) (fun h204 h => bif_lt h (fun g206 h => bif_lt h (fun g205 h => (by have e : mi = 204 := Nat.le_antisymm (Nat.le_of_lt_succ g205) (h204); subst e; exact okk_204 h)) (fun h205 h => (by have e : mi = 205 := Nat.le_antisymm (Nat.le_of_lt_succ g206) (h205); subst e; exact okk_205 h))) (fun h206 h => bif_lt h (fun g207 h => (by have e : mi = 206 := Nat.le_antisymm (Nat.le_of_lt_succ g207) (h206); subst e; exact okk_206 h)) (fun h207 h => (by have e : mi = 207 := Nat.le_antisymm (Nat.le_of_lt_succ g208) (h207); subst e; exact okk_207 h))))) (fun h208 h => bif_lt h (fun g211 h => bif_lt h (fun g209 h => (by have e : mi = 208 := Nat.le_antisymm (Nat.le_of_lt_succ g209) (h208); subst e; exact okk_208 h)) (fun h209 h => bif_lt h (fun g210 h => (by have e : mi = 209 := Nat.le_antisymm (Nat.le_of_lt_succ g210) (h209); subst e; exact okk_209 h)) (fun h210 h => (by have e : mi = 210 := Nat.le_antisymm (Nat.le_of_lt_succ g211) (h210); subst e; exact okk_210 h)))) (fun h211 h => bif_lt h (fun g213 h => bif_lt h (fun g212 h => (by have e : mi = 211 := Nat.le_antisymm (Nat.le_of_lt_succ g212) (h211); subst e; exact okk_211 h)) (fun h212 h => (by have e : mi = 212 := Nat.le_antisymm (Nat.le_of_lt_succ g213) (h212); subst e; exact okk_212 h))) (fun h213 h => bif_lt h (fun g214 h => (by have e : mi = 213 := Nat.le_antisymm (Nat.le_of_lt_succ g214) (h213); subst e; exact okk_213 h)) (fun h214 h => (by have e : mi = 214 := Nat.le_antisymm (Nat.le_of_lt_succ hm) (h214); subst e; exact okk_214 h)))))))))
