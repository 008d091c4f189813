/-! the law's program, walked: its numbers -/
def zz (z : Int) : Int := (Int32.ofInt (z * 1103515245 + 12345)).toInt
theorem zz_in (z : Int) : inR (zz z) := ⟨Int32.le_toInt _, by have := Int32.toInt_lt (Int32.ofInt (z * 1103515245 + 12345)); unfold zz; omega⟩
theorem zz_eq (z : Int) : Int32.ofInt (z * 1103515245 + 12345) = Int32.ofInt (zz z) := (Int32.ofInt_toInt _).symm
theorem sh_8 {z : Int} (h : inR z) : inR (z / 2 ^ (8 : Int).toNat) := by
  rw [show (2 : Int) ^ (8 : Int).toNat = 256 from rfl]
  have h1 := h.1
  have h2 := h.2
  exact ⟨by omega, by omega⟩
theorem sh_9 {z : Int} (h : inR z) : inR (z / 2 ^ (9 : Int).toNat) := by
  rw [show (2 : Int) ^ (9 : Int).toNat = 512 from rfl]
  have h1 := h.1
  have h2 := h.2
  exact ⟨by omega, by omega⟩
theorem sh_12 {z : Int} (h : inR z) : inR (z / 2 ^ (12 : Int).toNat) := by
  rw [show (2 : Int) ^ (12 : Int).toNat = 4096 from rfl]
  have h1 := h.1
  have h2 := h.2
  exact ⟨by omega, by omega⟩
theorem sh_16 {z : Int} (h : inR z) : inR (z / 2 ^ (16 : Int).toNat) := by
  rw [show (2 : Int) ^ (16 : Int).toNat = 65536 from rfl]
  have h1 := h.1
  have h2 := h.2
  exact ⟨by omega, by omega⟩
section JPR
variable {Γ : JG} {t : Nat} {Q : JQ} {α : Nat → Nat} {σ : St} {u : va_W} {a0 qA rs : Nat} {v z nw cl f k : Int}
/-- pick, called -/
theorem j_pick {pc : Nat} {L : Lo} {st : List AV} {v n : Int} (hlt : Γ.1.stackTraces = false) (d : decode method_43_code pc = .ok (.invokestatic 221, 3)) (hv : inR v) (n0 : 1 ≤ n) (n1 : n ≤ 100) (hwt : wt st ≤ 8) (h53 : gI σ 53 (-1) = 0)
    (kk : ∀ r, 0 ≤ r → r < n → J Γ m_lwG (pc + 3) L (vI r :: st) (wd Γ.2.1 α σ ++ u) t Q) : J Γ m_lwG pc L (vI n :: vI v :: st) (wd Γ.2.1 α σ ++ u) t Q := by
  refine j_M (st := st) mf_209 [vI v, vI n] hlt d rfl rfl (Nat.le_of_ble_eq_true rfl) hwt (Nat.le_of_ble_eq_true rfl) (Nat.le_of_ble_eq_true rfl) h53 rfl (Nat.zero_le _) ?_
  exact k209 hv n0 n1 (fun h => ⟨_, rfl, h53, noR_I _, kk _ h.1 h.2⟩)
/-- a kind that there is room for -/
theorem pg_K {κ : Int} (h : 0 ≤ κ ∧ κ ≤ 6) (hn : 0 ≤ nw ∧ nw ≤ 8) (hc : 0 ≤ cl ∧ cl ≤ 5) {w : va_W}
    (kk : ∀ κ, (0 ≤ κ ∧ κ ≤ 6) → (κ = 4 → nw < 8) → (κ = 6 → cl < 5) → J Γ m_lwG 155 [some (vR a0), some (vI v), some (vR qA), some (vI z), some (vI nw), some (vI cl), some (vI f), some (vR rs), some (vI k), some (vI κ)] [] w t Q) :
    J Γ m_lwG 126 [some (vR a0), some (vI v), some (vR qA), some (vI z), some (vI nw), some (vI cl), some (vI f), some (vR rs), some (vI k), some (vI κ)] [] w t Q := by
  have e1 : J Γ m_lwG 152 [some (vR a0), some (vI v), some (vR qA), some (vI z), some (vI nw), some (vI cl), some (vI f), some (vR rs), some (vI k), some (vI κ)] [] w t Q := by
    refine j_iconst d_lwG_152 ?_
    refine j_istore d_lwG_153 (by decide) ?_
    exact kk 1 (by omega) (by omega) (by omega)
  have e2 : (κ = 4 → nw < 8) → J Γ m_lwG 139 [some (vR a0), some (vI v), some (vR qA), some (vI z), some (vI nw), some (vI cl), some (vI f), some (vR rs), some (vI k), some (vI κ)] [] w t Q := by
    intro h4
    refine j_iload (a := κ) d_lwG_139 rfl ?_
    refine j_bipush d_lwG_141 rfl ?_
    by_cases h6 : κ = 6
    · refine j_icmp_ne_f (tgt := 155) d_lwG_143 (by decide) ⟨by omega, by omega⟩ (by decide) (by omega) ?_
      refine j_iload (a := cl) d_lwG_146 rfl ?_
      refine j_iconst d_lwG_148 ?_
      by_cases h5 : cl = 5
      · refine j_icmp_ne_f (tgt := 155) d_lwG_149 (by decide) ⟨by omega, by omega⟩ (by decide) (by show ¬ (cl ≠ 5); omega) ?_
        exact e1
      · refine j_icmp_ne_t (tgt := 155) d_lwG_149 (by decide) ⟨by omega, by omega⟩ (by decide) (by show cl ≠ 5; omega) ?_
        exact kk κ h h4 (by omega)
    · refine j_icmp_ne_t (tgt := 155) d_lwG_143 (by decide) ⟨by omega, by omega⟩ (by decide) (by omega) ?_
      exact kk κ h h4 (by omega)
  refine j_iload (a := κ) d_lwG_126 rfl ?_
  refine j_iconst d_lwG_128 ?_
  by_cases h4 : κ = 4
  · refine j_icmp_ne_f (tgt := 139) d_lwG_129 (by decide) ⟨by omega, by omega⟩ (by decide) (by show ¬ (κ ≠ 4); omega) ?_
    refine j_iload (a := nw) d_lwG_132 rfl ?_
    refine j_bipush d_lwG_134 rfl ?_
    by_cases h8 : nw = 8
    · refine j_icmp_eq_t (tgt := 152) d_lwG_136 (by decide) ⟨by omega, by omega⟩ (by decide) (by omega) ?_
      exact e1
    · refine j_icmp_eq_f (tgt := 152) d_lwG_136 (by decide) ⟨by omega, by omega⟩ (by decide) (by omega) ?_
      exact e2 (by omega)
  · refine j_icmp_ne_t (tgt := 139) d_lwG_129 (by decide) ⟨by omega, by omega⟩ (by decide) (by show κ ≠ 4; omega) ?_
    exact e2 (by omega)
/-- what is counted -/
theorem pg_N {κ : Int} (h : 0 ≤ κ ∧ κ ≤ 6) {w : va_W}
    (kk : J Γ m_lwG 188 [some (vR a0), some (vI v), some (vR qA), some (vI z), some (vI (nw + (if κ = 4 then 1 else 0))), some (vI (cl + (if κ = 6 then 1 else 0))), some (vI f), some (vR rs), some (vI k), some (vI κ)] [] w t Q) :
    J Γ m_lwG 155 [some (vR a0), some (vI v), some (vR qA), some (vI z), some (vI nw), some (vI cl), some (vI f), some (vR rs), some (vI k), some (vI κ)] [] w t Q := by
  have e1 : ∀ nw', J Γ m_lwG 188 [some (vR a0), some (vI v), some (vR qA), some (vI z), some (vI nw'), some (vI (cl + (if κ = 6 then 1 else 0))), some (vI f), some (vR rs), some (vI k), some (vI κ)] [] w t Q → J Γ m_lwG 171 [some (vR a0), some (vI v), some (vR qA), some (vI z), some (vI nw'), some (vI cl), some (vI f), some (vR rs), some (vI k), some (vI κ)] [] w t Q := by
    intro nw' kk
    refine j_iload (a := cl) d_lwG_171 rfl ?_
    refine j_iload (a := κ) d_lwG_173 rfl ?_
    refine j_bipush d_lwG_175 rfl ?_
    by_cases h6 : κ = 6
    · rw [if_pos h6] at kk
      refine j_icmp_ne_f (tgt := 184) d_lwG_177 (by decide) ⟨by omega, by omega⟩ (by decide) (by omega) ?_
      refine j_iconst d_lwG_180 ?_
      refine j_goto (tgt := 185) d_lwG_181 (by decide) ?_
      refine j_iadd d_lwG_185 ?_
      exact j_istore d_lwG_186 (by decide) kk
    · rw [if_neg h6] at kk
      refine j_icmp_ne_t (tgt := 184) d_lwG_177 (by decide) ⟨by omega, by omega⟩ (by decide) (by omega) ?_
      refine j_iconst d_lwG_184 ?_
      refine j_iadd d_lwG_185 ?_
      exact j_istore d_lwG_186 (by decide) kk
  refine j_iload (a := nw) d_lwG_155 rfl ?_
  refine j_iload (a := κ) d_lwG_157 rfl ?_
  refine j_iconst d_lwG_159 ?_
  by_cases h4 : κ = 4
  · rw [if_pos h4] at kk
    refine j_icmp_ne_f (tgt := 167) d_lwG_160 (by decide) ⟨by omega, by omega⟩ (by decide) (by show ¬ (κ ≠ 4); omega) ?_
    refine j_iconst d_lwG_163 ?_
    refine j_goto (tgt := 168) d_lwG_164 (by decide) ?_
    refine j_iadd d_lwG_168 ?_
    exact j_istore d_lwG_169 (by decide) (e1 _ kk)
  · rw [if_neg h4] at kk
    refine j_icmp_ne_t (tgt := 167) d_lwG_160 (by decide) ⟨by omega, by omega⟩ (by decide) (by show κ ≠ 4; omega) ?_
    refine j_iconst d_lwG_167 ?_
    refine j_iadd d_lwG_168 ?_
    exact j_istore d_lwG_169 (by decide) (e1 _ kk)
/-- a statement's kind -/
theorem pg_A (hlt : Γ.1.stackTraces = false) {a9 : Option AV} (hn : 0 ≤ nw ∧ nw ≤ 8) (hc : 0 ≤ cl ∧ cl ≤ 5) (h53 : gI σ 53 (-1) = 0)
    (kk : ∀ z κ, inR z → (0 ≤ κ ∧ κ ≤ 6) → (κ = 4 → nw < 8) → (κ = 6 → cl < 5) → J Γ m_lwG 197 [some (vR a0), some (vI v), some (vR qA), some (vI z), some (vI (nw + (if κ = 4 then 1 else 0))), some (vI (cl + (if κ = 6 then 1 else 0))), some (vI f), some (vR rs), some (vI k), some (vI κ)] [] (wd Γ.2.1 α σ ++ u) t Q) :
    J Γ m_lwG 106 [some (vR a0), some (vI v), some (vR qA), some (vI z), some (vI nw), some (vI cl), some (vI f), some (vR rs), some (vI k), a9] [] (wd Γ.2.1 α σ ++ u) t Q := by
  refine j_iload_n (a := z) d_lwG_106 rfl ?_
  refine j_ldc (z := 1103515245) d_lwG_107 jw_694 ?_
  refine j_imul d_lwG_109 ?_
  refine j_sipush d_lwG_110 rfl ?_
  refine j_iadd d_lwG_113 ?_
  refine J_top (zz_eq z) ?_
  refine j_istore_n d_lwG_114 (by decide) ?_
  refine j_iload_n (a := zz z) d_lwG_115 rfl ?_
  refine j_bipush d_lwG_116 rfl ?_
  refine j_ishr d_lwG_118 (zz_in z) (by decide) (by decide) ?_
  refine j_bipush d_lwG_119 rfl ?_
  refine j_pick (st := []) hlt d_lwG_121 (sh_9 (zz_in z)) (by decide) (by decide) (Nat.zero_le _) h53 (fun r r0 r1 => ?_)
  refine j_istore d_lwG_124 (by decide) ?_
  refine pg_K (z := zz z) ⟨r0, by omega⟩ hn hc (fun κ hk h4 h6 => ?_)
  refine pg_N hk ?_
  refine j_iload_n (a := zz z) d_lwG_188 rfl ?_
  refine j_ldc (z := 1103515245) d_lwG_189 jw_694 ?_
  refine j_imul d_lwG_191 ?_
  refine j_sipush d_lwG_192 rfl ?_
  refine j_iadd d_lwG_195 ?_
  refine J_top (zz_eq (zz z)) ?_
  refine j_istore_n d_lwG_196 (by decide) ?_
  exact kk (zz (zz z)) κ (zz_in _) hk h4 h6
end JPR
