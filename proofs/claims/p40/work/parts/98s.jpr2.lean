/-! the law's program, walked: a statement's row, and its text -/
theorem pre_ex {w w' : va_W} (h1 : w.length ≤ w'.length) (h2 : ∀ k, k < w.length → w'[k]? = w[k]?) : ∃ u, w' = w ++ u := by
  refine ⟨w'.drop w.length, List.ext_getElem? (fun k => ?_)⟩
  by_cases hk : k < w.length
  · rw [List.getElem?_append_left hk]; exact h2 k hk
  · rw [List.getElem?_append_right (by omega), List.getElem?_drop]
    congr 1
    omega
theorem hS_app {Γ : JG} {w u : va_W} {r : Nat} {S : List Int} (h : hS Γ w r S) : hS Γ (w ++ u) r S := by
  obtain ⟨bs, ns, fs, h1, h2⟩ := h
  refine ⟨bs, ns, fs, ?_, h2⟩
  rcases h1 with ⟨i, j, x, y, g1, g2⟩ | h1
  · exact Or.inl ⟨i, j, x, y, (app_lt (get_lt g1)).trans g1, (app_lt (get_lt g2)).trans g2⟩
  · exact Or.inr h1
theorem hS_up {Γ : JG} {w w' : va_W} {r : Nat} {S : List Int} (h : hS Γ w r S) (g : ∀ k, k < w.length → w'[k]? = w[k]?) : hS Γ w' r S := by
  obtain ⟨bs, ns, fs, h1, h2⟩ := h
  refine ⟨bs, ns, fs, ?_, h2⟩
  rcases h1 with ⟨i, j, x, y, g1, g2⟩ | h1
  · exact Or.inl ⟨i, j, x, y, (g i (get_lt g1)).trans g1, (g j (get_lt g2)).trans g2⟩
  · exact Or.inr h1
/-- a row of references set -/
theorem hS_setR {Γ : JG} {w : va_W} {r i a n : Nat} {c : ClassId} {f : Nat → Option Nat} {y : Nat × va_E} {S : List Int} (h : hS Γ w r S) (hi : w[i]? = some (a, .inl (c, n, rA f))) : hS Γ (w.set i y) r S := by
  obtain ⟨bs, ns, fs, h1, h2⟩ := h
  refine ⟨bs, ns, fs, ?_, h2⟩
  rcases h1 with ⟨p, q, x, z, g1, g2⟩ | h1
  · refine Or.inl ⟨p, q, x, z, ?_, ?_⟩
    · rw [List.getElem?_set_ne (fun e => by rw [e, g1] at hi; cases hi)]; exact g1
    · rw [List.getElem?_set_ne (fun e => by rw [e, g2] at hi; cases hi)]; exact g2
  · exact Or.inr h1
section JPT
variable {Γ : JG} {t : Nat} {Q : JQ} {α : Nat → Nat} {σ : St} {u : va_W} {a0 qA rs : Nat} {v z nw cl f k : Int}
theorem wu_at {κ : Nat → ClassId} (h53 : gI σ 53 (-1) = 0) {i : Nat} : (wd κ α σ ++ u)[53 + i]? = u[i]? := by
  have l : (wd κ α σ).length = 53 := by rw [wd_len, h53]; rfl
  rw [List.getElem?_append_right (by omega), l, Nat.add_sub_cancel_left]
theorem wu_set {κ : Nat → ClassId} (h53 : gI σ 53 (-1) = 0) {i : Nat} {y : Nat × va_E} : (wd κ α σ ++ u).set (53 + i) y = wd κ α σ ++ u.set i y := by
  have l : (wd κ α σ).length = 53 := by rw [wd_len, h53]; rfl
  rw [List.set_append_right _ _ (by omega), l, Nat.add_sub_cancel_left]
theorem set_last {u : va_W} {x y : Nat × va_E} : (u ++ [x]).set u.length y = u ++ [y] := by
  rw [List.set_append_right _ _ (Nat.le_refl _), Nat.sub_self]; rfl
theorem j_rw {μ : MD} {pc q : Nat} {L : Lo} {st : List AV} {g : Nat → Int32} {z v : Int} (h53 : gI σ 53 (-1) = 0) (d : decode μ.2.1 pc = .ok (.iastore, 1)) (hz : 0 ≤ z ∧ z < 4) (kk : J Γ μ (pc + 1) L st (wd Γ.2.1 α σ ++ (u ++ [((q, .inl (Γ.2.1 0, (4, .inl (upd g z.toNat (Int32.ofInt v))))) : Nat × va_E)])) t Q) : J Γ μ pc L (vI v :: vI z :: vR q :: st) (wd Γ.2.1 α σ ++ (u ++ [((q, .inl (Γ.2.1 0, (4, .inl g))) : Nat × va_E)])) t Q := by
  refine j_iast (i := 53 + u.length) (n := 4) d ((wu_at h53).trans app_get) ⟨hz.1, by omega⟩ (by decide) ?_
  rw [wu_set h53, set_last]
  exact kk
/-- the row -/
theorem pg_R (hlt : Γ.1.stackTraces = false) {κ : Int} {qF iF n : Nat} {fA fF : Nat → Option Nat} (h53 : gI σ 53 (-1) = 0) (hz : inR z) (hκ : 0 ≤ κ ∧ κ ≤ 6) (hf : 0 ≤ f ∧ f < 4) (hk : 0 ≤ k ∧ k < n) (hn : n ≤ 100) (hA : u[0]? = some (qA, .inl (Γ.2.1 4, 4, rA fA))) (hfA : fA f.toNat = some qF) (hF : u[iF]? = some (qF, .inl (Γ.2.1 3, n, rA fF))) (ht : 5 ≤ t)
    (kk : ∀ (s : St4) (q : Nat) (g : Nat → Int32), okr s → s.1 = κ → g 0 = Int32.ofInt s.1 → g 1 = Int32.ofInt s.2.1 → g 2 = Int32.ofInt s.2.2.1 → g 3 = Int32.ofInt s.2.2.2 → J Γ m_lwG 275 [some (vR a0), some (vI v), some (vR qA), some (vI z), some (vI nw), some (vI cl), some (vI f), some (vR rs), some (vI k), some (vI κ)] [] (wd Γ.2.1 α σ ++ (u ++ [((q, .inl (Γ.2.1 0, (4, .inl g))) : Nat × va_E)]).set iF (qF, .inl (Γ.2.1 3, n, rA (updR fF k.toNat (some q))))) (t - 5) Q) :
    J Γ m_lwG 197 [some (vR a0), some (vI v), some (vR qA), some (vI z), some (vI nw), some (vI cl), some (vI f), some (vR rs), some (vI k), some (vI κ)] [] (wd Γ.2.1 α σ ++ u) t Q := by
  refine j_aload_n (a := qA) d_lwG_197 rfl ?_
  refine j_iload (a := f) d_lwG_198 rfl ?_
  refine j_aald (y := 4) (i := 53 + 0) (n := 4) d_lwG_200 ((wu_at h53).trans hA) rfl ⟨hf.1, by omega⟩ (by decide) hfA ?_
  refine j_iload (a := k) d_lwG_201 rfl ?_
  refine j_iconst d_lwG_203 ?_
  refine j_newI d_lwG_204 (by decide) (by show 1 + 4 ≤ t; omega) (fun q => ?_)
  rw [List.append_assoc]
  refine j_dup d_lwG_206 rfl ?_
  refine j_iconst d_lwG_207 ?_
  refine j_iload (a := κ) d_lwG_208 rfl ?_
  refine j_rw (z := 0) h53 d_lwG_210 (by decide) ?_
  refine j_dup d_lwG_211 rfl ?_
  refine j_iconst d_lwG_212 ?_
  refine j_iload_n (a := z) d_lwG_213 rfl ?_
  refine j_bipush d_lwG_214 rfl ?_
  refine j_ishr d_lwG_216 hz (by decide) (by decide) ?_
  refine j_bipush d_lwG_217 rfl ?_
  refine j_pick hlt d_lwG_219 (sh_8 hz) (by decide) (by decide) (Nat.le_of_ble_eq_true rfl) h53 (fun r r0 r1 => ?_)
  refine j_rw (z := 1) h53 d_lwG_222 (by decide) ?_
  refine j_dup d_lwG_223 rfl ?_
  refine j_iconst d_lwG_224 ?_
  refine j_iload_n (a := z) d_lwG_225 rfl ?_
  refine j_bipush d_lwG_226 rfl ?_
  refine j_ishr d_lwG_228 hz (by decide) (by decide) ?_
  refine j_bipush d_lwG_229 rfl ?_
  refine j_pick hlt d_lwG_231 (sh_12 hz) (by decide) (by decide) (Nat.le_of_ble_eq_true rfl) h53 (fun r2 r20 r21 => ?_)
  refine j_rw (z := 2) h53 d_lwG_234 (by decide) ?_
  refine j_dup d_lwG_235 rfl ?_
  refine j_iconst d_lwG_236 ?_
  refine j_iload (a := κ) d_lwG_237 rfl ?_
  refine j_iconst d_lwG_239 ?_
  -- the end, with the fourth number
  have fin : ∀ r3 : Int, ((κ = 5 → 0 ≤ r3 ∧ r3 ≤ 2) ∧ ((κ = 6 → 0 ≤ r3 ∧ r3 ≤ 3) ∧ (κ ≠ 5 → κ ≠ 6 → r3 = 0))) →
      J Γ m_lwG 273 [some (vR a0), some (vI v), some (vR qA), some (vI z), some (vI nw), some (vI cl), some (vI f), some (vR rs), some (vI k), some (vI κ)] [vI r3, vI 3, vR q, vR q, vI k, vR qF] (wd Γ.2.1 α σ ++ (u ++ [((q, .inl (Γ.2.1 0, (4, .inl (upd (upd (upd (fun _ => 0) 0 (Int32.ofInt κ)) 1 (Int32.ofInt r)) 2 (Int32.ofInt r2))))) : Nat × va_E)])) (t - 5) Q := fun r3 h3 => by
    refine j_rw (z := 3) h53 d_lwG_273 (by decide) ?_
    refine j_aast (i := 53 + iF) (i2 := 53 + u.length) (y2 := 0) (cB := Γ.2.1 0) d_lwG_274 ((wu_at h53).trans ((app_lt (get_lt hF)).trans hF)) (fun s h => h.2.2.1) rfl ((wu_at h53).trans app_get) rfl hk (by omega) ?_
    rw [wu_set h53]
    exact kk (κ, r, r2, r3) q _ ⟨hκ, ⟨r0, by show r ≤ 7; omega⟩, ⟨r20, by show r2 ≤ 7; omega⟩, h3⟩ rfl rfl rfl rfl rfl
  by_cases h5 : κ = 5
  · refine j_icmp_ne_f (tgt := 254) d_lwG_240 (by decide) ⟨by omega, by omega⟩ (by decide) (by show ¬ (κ ≠ 5); omega) ?_
    refine j_iload_n (a := z) d_lwG_243 rfl ?_
    refine j_bipush d_lwG_244 rfl ?_
    refine j_ishr d_lwG_246 hz (by decide) (by decide) ?_
    refine j_iconst d_lwG_247 ?_
    refine j_pick hlt d_lwG_248 (sh_16 hz) (by decide) (by decide) (Nat.le_of_ble_eq_true rfl) h53 (fun r3 r30 r31 => ?_)
    have r31 : r3 < 3 := r31
    refine j_goto (tgt := 273) d_lwG_251 (by decide) ?_
    exact fin r3 ⟨fun _ => by omega, fun e => by omega, fun e => absurd h5 e⟩
  · refine j_icmp_ne_t (tgt := 254) d_lwG_240 (by decide) ⟨by omega, by omega⟩ (by decide) (by show κ ≠ 5; omega) ?_
    refine j_iload (a := κ) d_lwG_254 rfl ?_
    refine j_bipush d_lwG_256 rfl ?_
    by_cases h6 : κ = 6
    · refine j_icmp_ne_f (tgt := 272) d_lwG_258 (by decide) ⟨by omega, by omega⟩ (by decide) (by omega) ?_
      refine j_iload_n (a := z) d_lwG_261 rfl ?_
      refine j_bipush d_lwG_262 rfl ?_
      refine j_ishr d_lwG_264 hz (by decide) (by decide) ?_
      refine j_iconst d_lwG_265 ?_
      refine j_pick hlt d_lwG_266 (sh_16 hz) (by decide) (by decide) (Nat.le_of_ble_eq_true rfl) h53 (fun r3 r30 r31 => ?_)
      have r31 : r3 < 4 := r31
      refine j_goto (tgt := 273) d_lwG_269 (by decide) ?_
      exact fin r3 ⟨fun e => absurd e h5, fun e => by omega, fun _ e => absurd h6 e⟩
    · refine j_icmp_ne_t (tgt := 272) d_lwG_258 (by decide) ⟨by omega, by omega⟩ (by decide) (by omega) ?_
      refine j_iconst d_lwG_272 ?_
      exact fin 0 ⟨fun e => absurd e h5, fun e => absurd e h6, fun _ _ => rfl⟩
end JPT
