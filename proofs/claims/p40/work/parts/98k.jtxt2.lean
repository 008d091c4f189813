/-! the law's text, walked: the whole -/
section JZ
variable {Γ : JG} {w : va_W} {t : Nat} {Q : JQ} {a p0 : Nat} {f : Nat → Int32}
theorem fr_app {w w1 w2 : va_W} {K : Nat} (hK : K ≤ w.length) (h1 : w.length ≤ w1.length) (g1 : ∀ k, k < K → k < w.length → w1[k]? = w[k]?) (g2 : ∀ k, k < K → k < w1.length → w2[k]? = w1[k]?) : ∀ k, k < K → w2[k]? = w[k]? := fun k hk => (g2 k hk (by omega)).trans (g1 k hk (by omega))
/-- what text wants of a statement's row -/
theorem e_lwT {s : St4} (ho : okr s) (h : w[p0]? = some ((a, .inl (Γ.2.1 0, (4, .inl f))) : Nat × va_E)) (f0 : f 0 = Int32.ofInt s.1) (f1 : f 1 = Int32.ofInt s.2.1) (f2 : f 2 = Int32.ofInt s.2.2.1) (f3 : f 3 = Int32.ofInt s.2.2.2) (ht : 1200 ≤ t)
    (hq : ∀ w' rs, hS Γ w' rs (sx s) → w.length ≤ w'.length → (∀ k, k < w.length → w'[k]? = w[k]?) → Q (some (vR rs)) w') : J Γ m_lwT 0 (entry 3 [vR a]) [] w t Q := by
  obtain ⟨k, i, j, n⟩ := s
  obtain ⟨⟨k0, k1⟩, ⟨i0', i1'⟩, ⟨j0, j1⟩, n5, n6, nz⟩ := ho
  dsimp only at k0 k1 i0' i1' j0 j1 n5 n6 nz f0 f1 f2 f3
  have ci := nm_128 ⟨i0', i1'⟩
  have cj := nm_128 ⟨j0, j1⟩
  have hS0 := hS_k (Γ := Γ) (w := w) (i := 0) (by decide)
  have hp := get_lt h
  refine j_ldcS (i := 0) d_lwT_0 (by decide) rfl ?_
  refine j_aload_n (a := a) d_lwT_2 rfl ?_
  refine j_iconst d_lwT_3 ?_
  refine j_iald (v := i) d_lwT_4 h ⟨by decide, by decide⟩ (by decide) f1 ?_
  refine j_V m_stA (Γ.2.2.2.1.1 0) [vI i] 0 d_lwT_5 cw_lwT_stA jw_358 jw_359 jw_357 rfl hS0.rv (Nat.le_of_ble_eq_true rfl) (Nat.le_of_ble_eq_true rfl) (Nat.zero_le _) ?_
  refine e_stA hS0 ⟨i0', by show i < 8; omega⟩ ?_
  rw [kS_nm ⟨i0', i1'⟩]
  refine j_istore_n (a := nm i) d_lwT_8 (by decide) ?_
  refine j_ldcS (i := 0) d_lwT_9 (by decide) rfl ?_
  refine j_aload_n (a := a) d_lwT_11 rfl ?_
  refine j_iconst d_lwT_12 ?_
  refine j_iald (v := j) d_lwT_13 h ⟨by decide, by decide⟩ (by decide) f2 ?_
  refine j_V m_stA (Γ.2.2.2.1.1 0) [vI j] 0 d_lwT_14 cw_lwT_stA jw_358 jw_359 jw_357 rfl hS0.rv (Nat.le_of_ble_eq_true rfl) (Nat.le_of_ble_eq_true rfl) (Nat.zero_le _) ?_
  refine e_stA hS0 ⟨j0, by show j < 8; omega⟩ ?_
  rw [kS_nm ⟨j0, j1⟩]
  refine j_istore_n (a := nm j) d_lwT_17 (by decide) ?_
  refine j_aload_n (a := a) d_lwT_18 rfl ?_
  refine j_iconst d_lwT_19 ?_
  refine j_iald (v := k) d_lwT_20 h ⟨by decide, by decide⟩ (by decide) f0 ?_
  have hk : inR k := ⟨by omega, by omega⟩
  have all : ∀ (B : List Int), (∀ c ∈ B, 33 ≤ c ∧ c ≤ 126) → ∀ c ∈ B, 0 ≤ c ∧ c < 128 := fun B hB c hc => by have := hB c hc; omega
  have hsx := sx_chr (s := (k, i, j, n)) ⟨⟨k0, k1⟩, ⟨i0', i1'⟩, ⟨j0, j1⟩, n5, n6, nz⟩
  rcases (show k = 0 ∨ k = 1 ∨ k = 2 ∨ k = 3 ∨ k = 4 ∨ k = 5 ∨ k = 6 by omega) with e | e | e | e | e | e | e <;> subst e
  · refine j_tswI (tgt := 60) (off := 39) d_lwT_21 hk ⟨by decide, by decide⟩ rfl (by decide) ?_
    refine tB d_lwT_60 d_lwT_63 d_lwT_64 (Nat.le_of_ble_eq_true rfl) (by omega) (fun w1 r h1 l1 g1 => ?_)
    refine j_iload_n (a := nm i) d_lwT_67 rfl ?_
    refine tC d_lwT_68 h1 ci (by decide) (Nat.le_of_ble_eq_true rfl) (by omega) (fun w2 h2 l2 g2 => ?_)
    refine j_ldcS (i := 1) d_lwT_71 (by decide) rfl ?_
    refine tS (k := 1) (by decide) d_lwT_73 h2 (Nat.le_of_ble_eq_true rfl) (Nat.le_of_ble_eq_true rfl) (by omega) (fun w3 h3 l3 g3 => ?_)
    refine j_iload_n (a := nm j) d_lwT_76 rfl ?_
    refine tC d_lwT_77 h3 cj (Nat.le_of_ble_eq_true rfl) (Nat.le_of_ble_eq_true rfl) (by omega) (fun w4 h4 l4 g4 => ?_)
    refine tT d_lwT_80 d_lwT_83 h4 (Nat.le_of_ble_eq_true rfl) (all _ hsx) (by omega) (fun w5 rs h5 l5 g5 => hq w5 rs h5 (by omega) (fun k hk => ?_))
    rw [g5 k (by omega), g4 k hk (by omega), g3 k hk (by omega), g2 k hk (by omega), g1 k hk]
  · refine j_tswI (tgt := 84) (off := 63) d_lwT_21 hk ⟨by decide, by decide⟩ rfl (by decide) ?_
    refine tB d_lwT_84 d_lwT_87 d_lwT_88 (Nat.le_of_ble_eq_true rfl) (by omega) (fun w1 r h1 l1 g1 => ?_)
    refine j_iload_n (a := nm i) d_lwT_91 rfl ?_
    refine tC d_lwT_92 h1 ci (by decide) (Nat.le_of_ble_eq_true rfl) (by omega) (fun w2 h2 l2 g2 => ?_)
    refine j_ldcS (i := 2) d_lwT_95 (by decide) rfl ?_
    refine tS (k := 2) (by decide) d_lwT_97 h2 (Nat.le_of_ble_eq_true rfl) (Nat.le_of_ble_eq_true rfl) (by omega) (fun w3 h3 l3 g3 => ?_)
    refine j_iload_n (a := nm j) d_lwT_100 rfl ?_
    refine tC d_lwT_101 h3 cj (Nat.le_of_ble_eq_true rfl) (Nat.le_of_ble_eq_true rfl) (by omega) (fun w4 h4 l4 g4 => ?_)
    refine tT d_lwT_104 d_lwT_107 h4 (Nat.le_of_ble_eq_true rfl) (all _ hsx) (by omega) (fun w5 rs h5 l5 g5 => hq w5 rs h5 (by omega) (fun k hk => ?_))
    rw [g5 k (by omega), g4 k hk (by omega), g3 k hk (by omega), g2 k hk (by omega), g1 k hk]
  · refine j_tswI (tgt := 108) (off := 87) d_lwT_21 hk ⟨by decide, by decide⟩ rfl (by decide) ?_
    refine tB d_lwT_108 d_lwT_111 d_lwT_112 (Nat.le_of_ble_eq_true rfl) (by omega) (fun w1 r h1 l1 g1 => ?_)
    refine j_iload_n (a := nm i) d_lwT_115 rfl ?_
    refine tC d_lwT_116 h1 ci (by decide) (Nat.le_of_ble_eq_true rfl) (by omega) (fun w2 h2 l2 g2 => ?_)
    refine j_ldcS (i := 3) d_lwT_119 (by decide) rfl ?_
    refine tS (k := 3) (by decide) d_lwT_121 h2 (Nat.le_of_ble_eq_true rfl) (Nat.le_of_ble_eq_true rfl) (by omega) (fun w3 h3 l3 g3 => ?_)
    refine j_iload_n (a := nm j) d_lwT_124 rfl ?_
    refine tC d_lwT_125 h3 cj (Nat.le_of_ble_eq_true rfl) (Nat.le_of_ble_eq_true rfl) (by omega) (fun w4 h4 l4 g4 => ?_)
    refine tT d_lwT_128 d_lwT_131 h4 (Nat.le_of_ble_eq_true rfl) (all _ hsx) (by omega) (fun w5 rs h5 l5 g5 => hq w5 rs h5 (by omega) (fun k hk => ?_))
    rw [g5 k (by omega), g4 k hk (by omega), g3 k hk (by omega), g2 k hk (by omega), g1 k hk]
  · refine j_tswI (tgt := 132) (off := 111) d_lwT_21 hk ⟨by decide, by decide⟩ rfl (by decide) ?_
    refine tB d_lwT_132 d_lwT_135 d_lwT_136 (Nat.le_of_ble_eq_true rfl) (by omega) (fun w1 r h1 l1 g1 => ?_)
    refine j_ldcS (i := 4) d_lwT_139 (by decide) rfl ?_
    refine tS (k := 4) (by decide) d_lwT_141 h1 (Nat.le_of_ble_eq_true rfl) (Nat.le_of_ble_eq_true rfl) (by omega) (fun w2 h2 l2 g2 => ?_)
    refine j_iload_n (a := nm i) d_lwT_144 rfl ?_
    refine tC d_lwT_145 h2 ci (Nat.le_of_ble_eq_true rfl) (Nat.le_of_ble_eq_true rfl) (by omega) (fun w3 h3 l3 g3 => ?_)
    refine j_ldcS (i := 2) d_lwT_148 (by decide) rfl ?_
    refine tS (k := 2) (by decide) d_lwT_150 h3 (Nat.le_of_ble_eq_true rfl) (Nat.le_of_ble_eq_true rfl) (by omega) (fun w4 h4 l4 g4 => ?_)
    refine j_iload_n (a := nm j) d_lwT_153 rfl ?_
    refine tC d_lwT_154 h4 cj (Nat.le_of_ble_eq_true rfl) (Nat.le_of_ble_eq_true rfl) (by omega) (fun w5 h5 l5 g5 => ?_)
    refine tT d_lwT_157 d_lwT_160 h5 (Nat.le_of_ble_eq_true rfl) (all _ hsx) (by omega) (fun w6 rs h6 l6 g6 => hq w6 rs h6 (by omega) (fun k hk => ?_))
    rw [g6 k (by omega), g5 k hk (by omega), g4 k hk (by omega), g3 k hk (by omega), g2 k hk (by omega), g1 k hk]
  · refine j_tswI (tgt := 161) (off := 140) d_lwT_21 hk ⟨by decide, by decide⟩ rfl (by decide) ?_
    refine tB d_lwT_161 d_lwT_164 d_lwT_165 (Nat.le_of_ble_eq_true rfl) (by omega) (fun w1 r h1 l1 g1 => ?_)
    refine j_iload_n (a := nm i) d_lwT_168 rfl ?_
    refine tC d_lwT_169 h1 ci (by decide) (Nat.le_of_ble_eq_true rfl) (by omega) (fun w2 h2 l2 g2 => ?_)
    refine j_ldcS (i := 5) d_lwT_172 (by decide) rfl ?_
    refine tS (k := 5) (by decide) d_lwT_174 h2 (Nat.le_of_ble_eq_true rfl) (Nat.le_of_ble_eq_true rfl) (by omega) (fun w3 h3 l3 g3 => ?_)
    refine tT d_lwT_177 d_lwT_180 h3 (Nat.le_of_ble_eq_true rfl) (all _ hsx) (by omega) (fun w4 rs h4 l4 g4 => hq w4 rs h4 (by omega) (fun k hk => ?_))
    rw [g4 k (by omega), g3 k hk (by omega), g2 k hk (by omega), g1 k hk]
  · have z5 := n5 rfl
    refine j_tswI (tgt := 181) (off := 160) d_lwT_21 hk ⟨by decide, by decide⟩ rfl (by decide) ?_
    refine tB d_lwT_181 d_lwT_184 d_lwT_185 (Nat.le_of_ble_eq_true rfl) (by omega) (fun w1 r h1 l1 g1 => ?_)
    refine j_iload_n (a := nm i) d_lwT_188 rfl ?_
    refine tC d_lwT_189 h1 ci (by decide) (Nat.le_of_ble_eq_true rfl) (by omega) (fun w2 h2 l2 g2 => ?_)
    refine j_ldcS (i := 2) d_lwT_192 (by decide) rfl ?_
    refine tS (k := 2) (by decide) d_lwT_194 h2 (Nat.le_of_ble_eq_true rfl) (Nat.le_of_ble_eq_true rfl) (by omega) (fun w3 h3 l3 g3 => ?_)
    refine j_iload_n (a := nm j) d_lwT_197 rfl ?_
    refine tC d_lwT_198 h3 cj (Nat.le_of_ble_eq_true rfl) (Nat.le_of_ble_eq_true rfl) (by omega) (fun w4 h4 l4 g4 => ?_)
    refine j_ldcS (i := 6) d_lwT_201 (by decide) rfl ?_
    refine tS (k := 6) (by decide) d_lwT_203 h4 (Nat.le_of_ble_eq_true rfl) (Nat.le_of_ble_eq_true rfl) (by omega) (fun w5 h5 l5 g5 => ?_)
    refine j_aload_n (a := a) d_lwT_206 rfl ?_
    refine j_iconst d_lwT_207 ?_
    have hw5 : w5[p0]? = some ((a, .inl (Γ.2.1 0, (4, .inl f))) : Nat × va_E) := by
      rw [g5 p0 hp (by omega), g4 p0 hp (by omega), g3 p0 hp (by omega), g2 p0 hp (by omega), g1 p0 hp]; exact h
    refine j_iald (v := n) d_lwT_208 hw5 ⟨by decide, by decide⟩ (by decide) f3 ?_
    refine tN d_lwT_209 h5 (by omega) (Nat.le_of_ble_eq_true rfl) (Nat.le_of_ble_eq_true rfl) (by omega) (fun w6 h6 l6 g6 => ?_)
    refine tT d_lwT_212 d_lwT_215 h6 (Nat.le_of_ble_eq_true rfl) (all _ hsx) (by omega) (fun w7 rs h7 l7 g7 => hq w7 rs h7 (by omega) (fun k hk => ?_))
    rw [g7 k (by omega), g6 k hk (by omega), g5 k hk (by omega), g4 k hk (by omega), g3 k hk (by omega), g2 k hk (by omega), g1 k hk]
  · have z6 := n6 rfl
    refine j_tswO (tgt := 216) d_lwT_21 hk (Or.inr (by decide)) (by decide) ?_
    refine tB d_lwT_216 d_lwT_219 d_lwT_220 (Nat.le_of_ble_eq_true rfl) (by omega) (fun w1 r h1 l1 g1 => ?_)
    refine j_iload_n (a := nm i) d_lwT_223 rfl ?_
    refine tC d_lwT_224 h1 ci (by decide) (Nat.le_of_ble_eq_true rfl) (by omega) (fun w2 h2 l2 g2 => ?_)
    refine j_ldcS (i := 7) d_lwT_227 (by decide) rfl ?_
    refine tS (k := 7) (by decide) d_lwT_229 h2 (Nat.le_of_ble_eq_true rfl) (Nat.le_of_ble_eq_true rfl) (by omega) (fun w3 h3 l3 g3 => ?_)
    refine j_aload_n (a := a) d_lwT_232 rfl ?_
    refine j_iconst d_lwT_233 ?_
    have hw3 : w3[p0]? = some ((a, .inl (Γ.2.1 0, (4, .inl f))) : Nat × va_E) := by
      rw [g3 p0 hp (by omega), g2 p0 hp (by omega), g1 p0 hp]; exact h
    refine j_iald (v := n) d_lwT_234 hw3 ⟨by decide, by decide⟩ (by decide) f3 ?_
    refine tN d_lwT_235 h3 (by omega) (Nat.le_of_ble_eq_true rfl) (Nat.le_of_ble_eq_true rfl) (by omega) (fun w4 h4 l4 g4 => ?_)
    refine j_ldcS (i := 8) d_lwT_238 (by decide) rfl ?_
    refine tS (k := 8) (by decide) d_lwT_240 h4 (Nat.le_of_ble_eq_true rfl) (Nat.le_of_ble_eq_true rfl) (by omega) (fun w5 h5 l5 g5 => ?_)
    refine j_iload_n (a := nm j) d_lwT_243 rfl ?_
    refine tC d_lwT_244 h5 cj (Nat.le_of_ble_eq_true rfl) (Nat.le_of_ble_eq_true rfl) (by omega) (fun w6 h6 l6 g6 => ?_)
    refine j_ldcS (i := 9) d_lwT_247 (by decide) rfl ?_
    refine tS (k := 9) (by decide) d_lwT_249 h6 (Nat.le_of_ble_eq_true rfl) (Nat.le_of_ble_eq_true rfl) (by omega) (fun w7 h7 l7 g7 => ?_)
    refine tT d_lwT_252 d_lwT_255 h7 (Nat.le_of_ble_eq_true rfl) (all _ hsx) (by omega) (fun w8 rs h8 l8 g8 => hq w8 rs h8 (by omega) (fun k hk => ?_))
    rw [g8 k (by omega), g7 k hk (by omega), g6 k hk (by omega), g5 k hk (by omega), g4 k hk (by omega), g3 k hk (by omega), g2 k hk (by omega), g1 k hk]
end JZ
