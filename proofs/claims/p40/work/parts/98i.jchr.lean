/-! the JDK's charAt, walked -/
theorem iAnd_n : ∀ n, n < 128 → iAnd ((n : Nat) : Int) 255 = ((n : Nat) : Int) := by decide +kernel
theorem iAnd_c {v : Int} (h : 0 ≤ v ∧ v < 128) : iAnd v 255 = v := by
  have := iAnd_n v.toNat (by omega)
  rwa [show ((v.toNat : Nat) : Int) = v by omega] at this
theorem n_chr : ∀ n, n < 128 → narrow .char (.int (Int32.ofInt ((n : Nat) : Int))) = .int (Int32.ofInt ((n : Nat) : Int)) := by decide +kernel
theorem rd_chr {v : Int} (h : 0 ≤ v ∧ v < 128) : narrow .char (.int (Int32.ofInt v)) = .int (Int32.ofInt v) := by
  have := n_chr v.toNat (by omega)
  rwa [show ((v.toNat : Nat) : Int) = v by omega] at this
def kS (i : Nat) : List Int := ([[97, 98, 99, 100, 112, 114, 120, 121], [61, 38], [61], [61, 42], [42], [61, 110, 101, 119], [43], [61, 102], [40], [41], [], [59]] : List (List Int)).getD i []
theorem kS_1 : ∀ i, i < 12 → ∀ k, k < kl.getD i 0 → (kb.getD i []).getD k 0 = Int32.ofInt ((kS i).getD k 0) := by decide +kernel
theorem kS_2 : ∀ i, i < 12 → kl.getD i 0 = (kS i).length ∧ ((kS i).length ≤ 80 ∧ ∀ c ∈ kS i, 0 ≤ c ∧ c < 128) := by decide +kernel
theorem hS_k {Γ : JG} {w : va_W} {i : Nat} (hi : i < 12) : hS Γ w (Γ.2.2.2.1.1 i) (kS i) :=
  ⟨Γ.2.2.2.1.2.1 i, kl.getD i 0, fun j => (kb.getD i []).getD j 0, Or.inr ⟨i, hi, rfl, rfl, rfl, rfl⟩, (kS_2 i hi).1, (kS_2 i hi).2.1, kS_1 i hi, (kS_2 i hi).2.2⟩
theorem hS_mv {Γ : JG} {w w1 : va_W} {rs : Nat} {S : List Int} (h : hS Γ w rs S) (hfr : ∀ k, k < w.length → w1[k]? = w[k]?) : hS Γ w1 rs S := by
  obtain ⟨bs, ns, fs, h1, h2⟩ := h
  exact ⟨bs, ns, fs, h1.mv (fun k e a hk _ => hfr k (get_lt hk)), h2⟩
section JX
variable {Γ : JG} {w : va_W} {t : Nat} {Q : JQ} {r b n rs : Nat} {f : Nat → Int32} {S : List Int}
theorem e_pcX {z m : Int} {L0 : Lo} (g0 : L0 = [some (vI z), some (vI m), none]) (h : 0 ≤ z ∧ z < m) (hm : m ≤ 1000) (hq : Q (some (vI z)) w) : J Γ m_pcX 0 L0 [] w t Q := by
  subst g0
  refine j_iload_n (a := z) d_pcX_0 rfl ?_
  refine j_if_lt_f (tgt := 9) d_pcX_1 (by decide) ⟨by omega, by omega⟩ (by omega) ?_
  refine j_iload_n (a := z) d_pcX_4 rfl ?_
  refine j_iload_n (a := m) d_pcX_5 rfl ?_
  refine j_icmp_lt_t (tgt := 16) d_pcX_6 (by decide) ⟨by omega, by omega⟩ ⟨by omega, by omega⟩ h.2 ?_
  refine j_iload_n (a := z) d_pcX_16 rfl ?_
  exact j_iret d_pcX_17 rfl rfl hq
set_option maxHeartbeats 4000000 in
theorem e_stX {z m : Int} (h : 0 ≤ z ∧ z < m) (hm : m ≤ 1000) (hq : Q none w) : J Γ m_stX 0 (entry 2 [vI z, vI m]) [] w t Q := by
  refine j_iload_n d_stX_0 rfl ?_
  refine j_iload_n d_stX_1 rfl ?_
  intro p e R s m9 args below meth c H locs cells slots ls Qs B9 E hc hs hl9 hP hD hS
  obtain ⟨k1, k2, k3, k4, k5, k6, k7⟩ := cw_stX_pcX
  obtain ⟨b1, b2, b3, b4, b5, b6, b7, b8, b9, b10, b11⟩ := id B9
  have go : ∀ (v : Value), (lg_sl [.int (Int32.ofInt z), .int (Int32.ofInt m), v]).length ≤ m_pcX.2.2.1 → va_Z "jdk/internal/util/Preconditions" "SIOOBE_FORMATTER" "Ljava/util/function/BiFunction;" v (AJ Γ.2.2.2.2) s s.heap → W p Γ.1 e R s m9 args below meth c H locs cells slots Qs (F0 m9 2 ls (.int (Int32.ofInt m) :: .int (Int32.ofInt z) :: [])) := fun v hcat hz => by
    refine va_gets b1 b2 hz hS b4 (B9.wd _ jw_371) (fun x h => h) d_stX_2 ?_
    have hj : J Γ m_pcX 0 [some (vI z), some (vI m), none] [] w 0 (fun v w1 => v = some (vI z) ∧ w1 = w) := e_pcX rfl h hm ⟨rfl, rfl⟩
    have hrun := va_runS (As := [.int (Int32.ofInt z), .int (Int32.ofInt m), v]) (rest := ([] : List AV).map (cv id)) (g := F0 m9 5 ls (v :: .int (Int32.ofInt m) :: .int (Int32.ofInt z) :: [])) (R := R) (below := below) (locs := locs) (cells := cells) (slots := slots) (meth := meth) (p := p) (e := e) ⟨b1, b2, b3, b4, B9.wd (args := args)⟩ (met_J (as := [.int (Int32.ofInt z), .int (Int32.ofInt m), v]) k5 (fun ls h => ⟨h.1, h.2.1, fun q hq => h.2.2 q (by
        have hq : q ∈ [(0, Value.int (Int32.ofInt z)), (1, Value.int (Int32.ofInt m))] := hq
        rcases List.mem_cons.mp hq with e | hq
        · rw [e]; exact List.mem_cons_self
        · rw [List.mem_singleton.mp hq]; exact List.mem_cons_of_mem _ List.mem_cons_self)⟩) hcat hj H.size)
      ⟨⟨rfl, rfl, Nat.le_trans k6 b10, Nat.le_trans k7 b11, cdJ_good m_pcX k1 b7.1, List.mem_singleton.mpr rfl, B9.wd _ k1, B9.wd _ k2, k3, parJ k4, B9.wd _ jw_373⟩, B9.wd _ jw_374⟩ ⟨PcJ.blind, PcJ.pre b7 b8 b9 hP hD hS⟩ rfl rfl (hl9.1.trans rfl) rfl (roomJ (st2 := []) m9 5 ls _ (Nat.le_of_ble_eq_true rfl)) d_stX_5 ⟨by omega, by omega⟩
    refine J_back (st := []) hS b9 hrun (fun v w1 H1 locs1 hk hP1 hD1 hS1 => ?_)
    obtain ⟨rfl, rfl⟩ := hk
    exact (j_pop d_stX_8 rfl (j_vret d_stX_9 rfl hq) : J Γ m_stX 8 (entry 2 [vI z, vI m]) [vI z] w1 t Q) p e R s m9 args below meth c H1 locs1 (cells + 0) (slots + 6 * 0) ls Qs B9 E (by omega) (by omega) hl9 hP1 hD1 hS1
  rcases B9.hj.2.2.2.2.1 with hz | ⟨q, hz⟩
  · exact go _ (Nat.le_of_ble_eq_true rfl) hz
  · exact go _ (Nat.le_of_ble_eq_true rfl) hz
theorem e_l1A {z v : Int} (hb : BV Γ w b n f) (hn : n ≤ 1000) (h : 0 ≤ z ∧ z < n) (hv : f z.toNat = Int32.ofInt v) (hc : 0 ≤ v ∧ v < 128) (hq : Q (some (vI v)) w) : J Γ m_l1A 0 (entry 2 [vR b, vI z]) [] w t Q := by
  refine j_iload_n d_l1A_0 rfl ?_
  refine j_aload_n d_l1A_1 rfl ?_
  refine j_blen d_l1A_2 hb ?_
  refine j_S m_stX [vI z, vI n] 0 d_l1A_3 cw_l1A_stX jw_369 jw_368 rfl (Nat.le_of_ble_eq_true rfl) (Nat.le_of_ble_eq_true rfl) (Nat.zero_le _) ?_
  refine e_stX h (by omega) ?_
  refine j_aload_n d_l1A_6 rfl ?_
  refine j_iload_n d_l1A_7 rfl ?_
  refine j_bald d_l1A_8 hb h (by omega) hv ?_
  refine j_sipush d_l1A_9 rfl ?_
  refine j_iand d_l1A_12 ?_
  rw [iAnd_c hc]
  refine j_i2c d_l1A_13 hc ?_
  exact j_iret d_l1A_14 rfl (rd_chr hc) hq
theorem e_stA {z : Int} (h : hS Γ w rs S) (hz : 0 ≤ z ∧ z < S.length) (hq : Q (some (vI (S.getD z.toNat 0))) w) : J Γ m_stA 0 (entry 2 [vR rs, vI z]) [] w t Q := by
  obtain ⟨bs, ns, fs, hs, hns, hS80, hfs, hfc⟩ := h
  have hc : 0 ≤ S.getD z.toNat 0 ∧ S.getD z.toNat 0 < 128 := hfc _ (by
    rw [List.getD_eq_getElem?_getD, List.getElem?_eq_getElem (by omega)]
    exact List.getElem_mem _)
  refine j_aload_n d_stA_0 rfl ?_
  refine j_V m_st1 rs [] 0 d_stA_1 cw_stA_st1 jw_362 jw_363 jw_361 rfl hs.rv (Nat.le_of_ble_eq_true rfl) (Nat.le_of_ble_eq_true rfl) (Nat.zero_le _) ?_
  refine e_st1 hs ?_
  refine j_if_eq_f (tgt := 16) d_stA_4 (by decide) i1 (by decide) ?_
  refine j_aload_n d_stA_7 rfl ?_
  refine j_sval d_stA_8 jw_928 hs ?_
  refine j_iload_n d_stA_11 rfl ?_
  refine j_S m_l1A [vR bs, vI z] 0 d_stA_12 cw_stA_l1A jw_366 jw_365 rfl (Nat.le_of_ble_eq_true rfl) (Nat.le_of_ble_eq_true rfl) (Nat.zero_le _) ?_
  refine e_l1A hs.bv (by omega) (by omega) (hfs _ (by omega)) hc ?_
  exact j_iret d_stA_15 rfl (rd_chr hc) hq
theorem e_stL' (h : hS Γ w rs S) (hq : Q (some (vI S.length)) w) : J Γ m_stL 0 (entry 1 [vR rs]) [] w t Q := by
  obtain ⟨bs, ns, fs, hs, hns, hS80, hfs, hfc⟩ := h
  refine e_stL hs (by omega) ?_
  rw [hns]; exact hq
theorem hS.rv (h : hS Γ w rs S) : RV Γ w rs nST := by
  obtain ⟨bs, ns, fs, hs, h2⟩ := h
  exact hs.rv
end JX
