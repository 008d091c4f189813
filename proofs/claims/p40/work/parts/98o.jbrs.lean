/-! bounds, ranks and saved, from their beginnings -/
theorem mf2_210 : MF m_lwB 210 := ⟨rfl, rfl, by decide +kernel, rfl, by decide, by decide +kernel, Nat.le_of_ble_eq_true rfl, Nat.le_of_ble_eq_true rfl⟩
theorem mf2_211 : MF m_lwR 211 := ⟨rfl, rfl, by decide +kernel, rfl, by decide, by decide +kernel, Nat.le_of_ble_eq_true rfl, Nat.le_of_ble_eq_true rfl⟩
theorem mf2_214 : MF m_lwS 214 := ⟨rfl, rfl, by decide +kernel, rfl, by decide, by decide +kernel, Nat.le_of_ble_eq_true rfl, Nat.le_of_ble_eq_true rfl⟩
theorem fr_sA {σ : St} {n : Int} : fr (fun c _ => c = 53) σ (sA σ n) := fun c j h => ⟨if_neg h, if_neg h, rfl⟩
theorem TXb_fr {M : Nat → Int → Prop} {σ σ' : St} {B : List Int} (h : TXb σ B) (g : fr M σ σ') (h1 : ¬ M 1 1) (h2 : ∀ j, ¬ M 2 j) : TXb σ' B :=
  ⟨(fr_I g 1 1 h1).trans h.1, h.2.1, h.2.2.1, fun i hi => (fr_I g 2 i (h2 i)).trans (h.2.2.2 i hi)⟩
/-- what a round keeps between its parts -/
def RS0 (P : Pg) (lim : Int) (σ : St) : Prop := CI P lim σ ∧ (TXb σ [] ∧ gI σ 53 (-1) = 0)
section JBR
variable {Γ : JG} {t : Nat} {Q : JQ} {α : Nat → Nat} {σ : St} {P : Pg} {lim : Int} {ys : List Int}
theorem e_lwB (hlt : Γ.1.stackTraces = false) (hP : okP P) (hO : okO P) (hl : 0 ≤ lim ∧ lim ≤ 2) (h : RS0 P lim σ) (ht : 14021 ≤ t)
    (hq : ∀ σ', RS0 P 2 σ' → Q (some (vI 1)) (wd Γ.2.1 α σ')) : J Γ m_lwB 0 (entry 9 [vR (α 0)]) [] (wd Γ.2.1 α σ) t Q := by
  obtain ⟨h, hx, h53⟩ := h
  refine j_bipush d_lwB_0 rfl ?_
  refine j_newL d_lwB_2 (by decide) (by show 1 + 20 ≤ t; omega) (fun q => ?_)
  refine j_astore_n d_lwB_4 (by decide) ?_
  refine j_tailR (x := 210) (q := q) (L1 := [some (vR 0), some (vR 53), none, none, none, none, none, none, none]) mf2_210 hlt (n := 20) (by decide) rfl h53 ?_
  refine k210 hP hO hl (by show 14000 ≤ t - (1 + 20); omega) (CI_fr h fr_sA (fun c j k => by omega)) sA_n (fun σ' c f => ⟨1, rfl, hq _ ⟨?_, ?_, ?_⟩⟩)
  · exact CI_fr c (fr_sI (M := fun c _ => c = 53) fr_refl rfl) (fun c j k => by omega)
  · exact TXb_fr (TXb_fr (TXb_fr hx fr_sA (by omega) (fun j => by omega)) f (by unfold bdN bdM clq; omega) (fun j => by unfold bdN bdM clq; omega)) (fr_sI (M := fun c _ => c = 53) fr_refl rfl) (by omega) (fun j => by omega)
  · rw [gI_sI, if_pos ⟨rfl, rfl⟩]
theorem e_lwR (hlt : Γ.1.stackTraces = false) (hP : okP P) (hl : inR lim) (h : RS0 P lim σ) (ht : 9062 ≤ t)
    (hq : ∀ σ', RS0 P 0 σ' → Q (some (vI 1)) (wd Γ.2.1 α σ')) : J Γ m_lwR 0 (entry 14 [vR (α 0)]) [] (wd Γ.2.1 α σ) t Q := by
  obtain ⟨h, hx, h53⟩ := h
  obtain ⟨ys, hY⟩ := isC_ex hP 0
  have n1 : ∀ j, ¬ clq 53 j := fun j => by unfold clq; omega
  rw [← List.append_nil (wd Γ.2.1 α σ)]
  refine j_aload_n (a := α 0) d_lwR_0 rfl ?_
  refine j_M (st := []) mf_194 [vR 0] hlt d_lwR_1 rfl rfl (Nat.le_of_ble_eq_true rfl) (Nat.le_of_ble_eq_true rfl) (Nat.le_of_ble_eq_true rfl) (Nat.le_of_ble_eq_true rfl) h53 rfl (Nat.zero_le _) ?_
  refine k194 hP hY h (fun σ1 rr hr c1 f1 => ⟨_, rfl, (fr_I f1 53 (-1) (n1 _)).trans h53, noR_L _, ?_⟩)
  refine j_lstore_n d_lwR_4 (by decide) ?_
  refine j_aload_n (a := α 0) d_lwR_5 rfl ?_
  refine j_iconst d_lwR_6 ?_
  refine j_M (st := []) mf_184 [vR 0, vI 0] hlt d_lwR_7 rfl rfl (Nat.le_of_ble_eq_true rfl) (Nat.le_of_ble_eq_true rfl) (Nat.le_of_ble_eq_true rfl) (Nat.le_of_ble_eq_true rfl) ((fr_I f1 53 (-1) (n1 _)).trans h53) rfl (by show 1 ≤ t - 0; omega) ?_
  refine k184 hl c1 (by omega) (by omega) (fun c2 => ⟨_, rfl, ?_, noR_L _, ?_⟩)
  · rw [gI_sI, if_neg (by omega), gI_sI, if_neg (by omega)]; exact (fr_I f1 53 (-1) (n1 _)).trans h53
  refine j_pop2 d_lwR_10 rfl ?_
  refine j_bipush d_lwR_11 rfl ?_
  rw [List.append_nil]
  refine j_newL d_lwR_13 (by decide) (by show 1 + 60 ≤ t - 0 - 1; omega) (fun q => ?_)
  refine j_astore_n d_lwR_15 (by decide) ?_
  have f2 : fr (fun c j => clq c j ∨ (c = 5 ∧ j = 2)) σ (sI (sI σ1 5 2 0) 19 8 1) := fr_sI (fr_sI (fr_mono f1 (fun c j k => Or.inl k)) (Or.inr ⟨rfl, rfl⟩)) (Or.inl (by unfold clq; omega))
  refine j_tailR (x := 211) (q := q) (L1 := [some (vR 0), some (vL (BitVec.ofInt 64 rr)), none, some (vR 53), none, none, none, none, none, none, none, none, none, none]) mf2_211 hlt (n := 60) (by decide) rfl ((fr_I f2 53 (-1) (by unfold clq; omega)).trans h53) ?_
  refine k211 hP hY hr FN_in (by show 9000 ≤ t - 0 - 1 - (1 + 60); omega) (CI_fr c2 fr_sA (fun c j k => by omega)) sA_n sA_0 (fun σ' c f => ⟨1, rfl, hq _ ⟨?_, ?_, ?_⟩⟩)
  · exact CI_fr c (fr_sI (M := fun c _ => c = 53) fr_refl rfl) (fun c j k => by omega)
  · exact TXb_fr (TXb_fr (TXb_fr (TXb_fr hx f2 (by unfold clq; omega) (fun j => by unfold clq; omega)) fr_sA (by omega) (fun j => by omega)) f (by unfold rkM clq; omega) (fun j => by unfold rkM clq; omega)) (fr_sI (M := fun c _ => c = 53) fr_refl rfl) (by omega) (fun j => by omega)
  · rw [gI_sI, if_pos ⟨rfl, rfl⟩]
end JBR
