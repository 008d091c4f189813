/-! the law's text, walked -/
theorem kS_nm {i : Int} (h : 0 ≤ i ∧ i ≤ 7) : (kS 0).getD i.toNat 0 = nm i := by
  rcases (show i = 0 ∨ i = 1 ∨ i = 2 ∨ i = 3 ∨ i = 4 ∨ i = 5 ∨ i = 6 ∨ i = 7 by omega) with e | e | e | e | e | e | e | e <;> subst e <;> decide
theorem nm_128 {i : Int} (h : 0 ≤ i ∧ i ≤ 7) : 0 ≤ nm i ∧ nm i < 128 := by
  have := nm_cs h.1 h.2
  omega
section JY
variable {Γ : JG} {w : va_W} {t : Nat} {Q : JQ} {r i K a p0 n : Nat} {f : Nat → Int32} {B : List Int} {L : Lo} {pc : Nat} {st : List AV} {μ : MD}
theorem j_tswI {dd lo hi z off : Int} {offs : Array Int} {len tgt : Nat} (d : decode μ.2.1 pc = .ok (.tableswitch dd lo hi offs, len)) (hz : inR z) (h : lo ≤ z ∧ z ≤ hi) (ho : offs[(z - lo).toNat]? = some off) (ht : (pc : Int) + off = (tgt : Int)) (k : J Γ μ tgt L st w t Q) : J Γ μ pc L (vI z :: st) w t Q := by
  intro p e R s m args below meth c H locs cells slots ls Qs B E hc hs hl hP hD hS
  have ea := n_toInt hz
  exact lv_tableIn (off := off) (tgt := tgt) B.1 B.2.1 d (by rw [ea]; omega) (by rw [ea]; omega) (by rw [ea]; exact ho) ht (k p e R s m args below meth c H locs cells slots ls Qs B E hc hs hl hP hD hS)
theorem j_tswO {dd lo hi z : Int} {offs : Array Int} {len tgt : Nat} (d : decode μ.2.1 pc = .ok (.tableswitch dd lo hi offs, len)) (hz : inR z) (h : z < lo ∨ hi < z) (ht : (pc : Int) + dd = (tgt : Int)) (k : J Γ μ tgt L st w t Q) : J Γ μ pc L (vI z :: st) w t Q := by
  intro p e R s m args below meth c H locs cells slots ls Qs B E hc hs hl hP hD hS
  have ea := n_toInt hz
  exact lv_tableOut (tgt := tgt) B.1 B.2.1 d (by rw [ea]; omega) ht (k p e R s m args below meth c H locs cells slots ls Qs B E hc hs hl hP hD hS)
theorem hB.rv (h : hB Γ K w i r B) : RV Γ w r nSB := by
  obtain ⟨hKi, j, b, n, f, x, hKj, hi, h2⟩ := h
  exact Or.inl ⟨i, _, hi, rfl⟩
/-- one piece more of a text -/
def PX (p0 K : Nat) (w w' : va_W) : Prop := w.length ≤ w'.length ∧ ∀ k, k < K → k < w.length → w'[k]? = w[k]?
theorem tC {c : Int} (d : decode method_41_code pc = .ok (.invokevirtual 172, 3)) (h : hB Γ K w i r B) (hc : 0 ≤ c ∧ c < 128) (hl : B.length < 80) (hwt : wt st ≤ 8) (ht : 161 ≤ t) (kk : ∀ w', hB Γ K w' i r (B ++ [c]) → w.length ≤ w'.length → (∀ k, k < K → k < w.length → w'[k]? = w[k]?) → J Γ m_lwT (pc + 3) L (vR r :: st) w' (t - 161) Q) : J Γ m_lwT pc L (vI c :: vR r :: st) w t Q := by
  refine j_V m_sbC r [vI c] 161 d cw_lwT_sbC jw_838 jw_839 jw_837 rfl h.rv (Nat.le_of_ble_eq_true rfl) hwt ht ?_
  exact e_sbC h hc hl (Nat.le_refl _) kk
theorem tS {k : Nat} (hk : k < 12) (d : decode method_41_code pc = .ok (.invokevirtual 178, 3)) (h : hB Γ K w i r B) (hl : B.length + (kS k).length ≤ 80) (hwt : wt st ≤ 8) (ht : 161 ≤ t) (kk : ∀ w', hB Γ K w' i r (B ++ kS k) → w.length ≤ w'.length → (∀ k, k < K → k < w.length → w'[k]? = w[k]?) → J Γ m_lwT (pc + 3) L (vR r :: st) w' (t - 161) Q) : J Γ m_lwT pc L (vR (Γ.2.2.2.1.1 k) :: vR r :: st) w t Q := by
  refine j_V m_sbS r [vR (Γ.2.2.2.1.1 k)] 161 d cw_lwT_sbS jw_732 jw_733 jw_731 rfl h.rv (Nat.le_of_ble_eq_true rfl) hwt ht ?_
  exact e_sbS h (hS_k hk) hl (Nat.le_refl _) kk
theorem tN {z : Int} (d : decode method_41_code pc = .ok (.invokevirtual 195, 3)) (h : hB Γ K w i r B) (hz : 0 ≤ z ∧ z ≤ 9) (hl : B.length < 80) (hwt : wt st ≤ 8) (ht : 161 ≤ t) (kk : ∀ w', hB Γ K w' i r (B ++ [48 + z]) → w.length ≤ w'.length → (∀ k, k < K → k < w.length → w'[k]? = w[k]?) → J Γ m_lwT (pc + 3) L (vR r :: st) w' (t - 161) Q) : J Γ m_lwT pc L (vI z :: vR r :: st) w t Q := by
  refine j_V m_sbN r [vI z] 161 d cw_lwT_sbN jw_890 jw_891 jw_940 rfl h.rv (Nat.le_of_ble_eq_true rfl) hwt ht ?_
  exact e_sbN h hz hl (Nat.le_refl _) kk
theorem tT (d : decode method_41_code pc = .ok (.invokevirtual 181, 3)) (d2 : decode method_41_code (pc + 3) = .ok (.areturn, 1)) (h : hB Γ K w i r B) (hl : B.length ≤ 80) (hc : ∀ c ∈ B, 0 ≤ c ∧ c < 128) (ht : 83 ≤ t) (hq : ∀ w' rs, hS Γ w' rs B → w.length ≤ w'.length → (∀ k, k < w.length → w'[k]? = w[k]?) → Q (some (vR rs)) w') : J Γ m_lwT pc L [vR r] w t Q := by
  refine j_V m_sbT r [] 83 d cw_lwT_sbT jw_852 jw_853 jw_851 rfl h.rv (Nat.le_of_ble_eq_true rfl) (Nat.le_of_ble_eq_true rfl) ht ?_
  exact e_sbT h hl hc (Nat.le_refl _) (fun w' rs g1 g2 g3 => j_aret d2 rfl (Or.inl ⟨_, rfl⟩) (hq w' rs g1 g2 g3))
theorem tB (d : decode method_41_code pc = .ok (.new 169, 3)) (d2 : decode method_41_code (pc + 3) = .ok (.dup, 1)) (d3 : decode method_41_code (pc + 3 + 1) = .ok (.invokespecial 171, 3)) (hwt : wt st ≤ 5) (ht : 18 ≤ t) (kk : ∀ w' r, hB Γ w.length w' w.length r [] → w.length ≤ w'.length → (∀ k, k < w.length → w'[k]? = w[k]?) → J Γ m_lwT (pc + 3 + 1 + 3) L (vR r :: st) w' (t - 18) Q) : J Γ m_lwT pc L st w t Q := by
  refine j_new9 d jw_701 jw_702 jw_80 (by omega) (fun q => ?_)
  refine j_dup d2 rfl ?_
  refine j_I m_sbI q [] 17 d3 cw_lwT_sbI rfl rfl jw_704 jw_703 rfl (Nat.le_of_ble_eq_true rfl) (by show (1 + wt st) ≤ 8; omega) (by omega) ?_
  have hlen : (w ++ [((q, .inr (9, dSB)) : Nat × va_E)]).length = w.length + 1 := by rw [List.length_append]; rfl
  refine e_sbI (K := w.length) app_get (Nat.le_refl _) (Nat.le_refl _) (fun w' g1 g2 g3 => ?_)
  have := kk w' q g1 (by omega) (fun k hk => (g3 k (by omega) (by omega)).trans (app_lt hk))
  rw [show t - 18 = t - 1 - 17 by omega] at this
  exact this
end JY
