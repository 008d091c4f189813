theorem jx_212 : Cond.classLink "PointerAnalyzerLaw" 212 (FieldType.array (.array .int)).toString ∈ TS := by
  have e : (FieldType.array (.array .int)).toString = "[[I" := by decide +kernel
  rw [e]
  exact ts_mem (i := 341) (by decide +kernel) rfl
theorem jx_ov4 : FieldType.array .int ∈ jAO := List.mem_cons_of_mem _ (List.mem_cons_self ..)
theorem jx_224 : Cond.classLink "PointerAnalyzerLaw" 224 (FieldType.array .int).toString ∈ TS := by
  have e : (FieldType.array .int).toString = "[I" := by decide +kernel
  rw [e]
  exact ts_mem (i := 699) (by decide +kernel) rfl
theorem jx_ov3 : FieldType.int ∈ jAO := List.mem_cons_self ..
section JPB
variable {Γ : JG} {Q : JQ} {α : Nat → Nat} {σ : St} {u : va_W} {qA t : Nat} {v z nw cl f : Int} {fA : Nat → Option Nat} {a7 a8 a9 : Option AV}
/-- a body's row -/
theorem pg_B (hlt : Γ.1.stackTraces = false) (h53 : gI σ 53 (-1) = 0) (hf : 0 ≤ f ∧ f < 4) (hA : u[0]? = some (qA, .inl (Γ.2.1 4, 4, rA fA))) (ht : 10 ≤ t)
    (kk : ∀ (z m : Int) (q : Nat), inR z → (0 ≤ m ∧ m ≤ 9) → J Γ m_lwG 96 [some (vR (α 0)), some (vI v), some (vR qA), some (vI z), some (vI nw), some (vI cl), some (vI f), some (vR (Γ.2.2.2.1.1 10)), some (vI 0), a9] [] (wd Γ.2.1 α σ ++ (u ++ [((q, .inl (Γ.2.1 3, (m.toNat, rA (fun _ => none)))) : Nat × va_E)]).set 0 (qA, .inl (Γ.2.1 4, 4, rA (updR fA f.toNat (some q))))) (t - (1 + m.toNat)) Q) :
    J Γ m_lwG 43 [some (vR (α 0)), some (vI v), some (vR qA), some (vI z), some (vI nw), some (vI cl), some (vI f), a7, a8, a9] [] (wd Γ.2.1 α σ ++ u) t Q := by
  have hfR : inR f := ⟨by omega, by omega⟩
  refine j_iload_n (a := z) d_lwG_43 rfl ?_
  refine j_ldc (z := 1103515245) d_lwG_44 jw_694 ?_
  refine j_imul d_lwG_46 ?_
  refine j_sipush d_lwG_47 rfl ?_
  refine j_iadd d_lwG_50 ?_
  refine J_top (zz_eq z) ?_
  refine j_istore_n d_lwG_51 (by decide) ?_
  refine j_aload_n (a := qA) d_lwG_52 rfl ?_
  refine j_iload (a := f) d_lwG_53 rfl ?_
  refine j_iload_n (a := zz z) d_lwG_55 rfl ?_
  refine j_bipush d_lwG_56 rfl ?_
  refine j_ishr d_lwG_58 (zz_in z) (by decide) (by decide) ?_
  refine j_iload (a := f) d_lwG_59 rfl ?_
  have fin : ∀ m : Int, (0 ≤ m ∧ m ≤ 9) → J Γ m_lwG 85 [some (vR (α 0)), some (vI v), some (vR qA), some (vI (zz z)), some (vI nw), some (vI cl), some (vI f), a7, a8, a9] [vI m, vI f, vR qA] (wd Γ.2.1 α σ ++ u) t Q := fun m hm => by
    refine j_anew (y := 3) (ty := .int) d_lwG_85 rfl jx_224 jx_ov3 ⟨hm.1, by omega⟩ (by omega) (fun q => ?_)
    rw [List.append_assoc]
    refine j_aast (i := 53 + 0) (i2 := 53 + u.length) (y2 := 3) (cB := Γ.2.1 3) d_lwG_88 ((wu_at h53).trans ((app_lt (get_lt hA)).trans hA)) (fun s h => h.2.2.2.1) rfl ((wu_at h53).trans app_get) rfl ⟨hf.1, by omega⟩ (by decide) ?_
    rw [wu_set h53]
    refine j_ldcS (i := 10) d_lwG_89 (by decide) rfl ?_
    refine j_astore d_lwG_91 (by decide) ?_
    refine j_iconst d_lwG_93 ?_
    refine j_istore d_lwG_94 (by decide) ?_
    exact kk (zz z) m q (zz_in z) hm
  by_cases h0 : f = 0
  · refine j_if_ne_f (tgt := 69) d_lwG_61 (by decide) hfR (by show ¬ (f ≠ 0); omega) ?_
    refine j_bipush d_lwG_64 rfl ?_
    refine j_goto (tgt := 71) d_lwG_66 (by decide) ?_
    refine j_pick hlt d_lwG_71 (sh_9 (zz_in z)) (by decide) (by decide) (Nat.le_of_ble_eq_true rfl) h53 (fun r r0 r1 => ?_)
    have r1 : r < 9 := r1
    refine j_iload (a := f) d_lwG_74 rfl ?_
    refine j_if_ne_f (tgt := 83) d_lwG_76 (by decide) hfR (by show ¬ (f ≠ 0); omega) ?_
    refine j_iconst d_lwG_79 ?_
    refine j_goto (tgt := 84) d_lwG_80 (by decide) ?_
    refine j_iadd d_lwG_84 ?_
    exact fin (r + 1) ⟨by omega, by omega⟩
  · refine j_if_ne_t (tgt := 69) d_lwG_61 (by decide) hfR (by show f ≠ 0; omega) ?_
    refine j_bipush d_lwG_69 rfl ?_
    refine j_pick hlt d_lwG_71 (sh_9 (zz_in z)) (by decide) (by decide) (Nat.le_of_ble_eq_true rfl) h53 (fun r r0 r1 => ?_)
    have r1 : r < 6 := r1
    refine j_iload (a := f) d_lwG_74 rfl ?_
    refine j_if_ne_t (tgt := 83) d_lwG_76 (by decide) hfR (by show f ≠ 0; omega) ?_
    refine j_iconst d_lwG_83 ?_
    refine j_iadd d_lwG_84 ?_
    exact fin (r + 0) ⟨by omega, by omega⟩
end JPB
