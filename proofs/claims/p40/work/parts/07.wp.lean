theorem ex_succ (n t mi pc : Nat) (L : Lo) (st : List AV) (σ : St) : ex (n + 1) t mi pc L st σ = (match cd mi pc with | none => none | some en => bod en t mi pc L st σ (ex n)) := rfl
theorem bod_ss {en : Ent} (hs : isS en.1 = true) (t mi pc : Nat) (L : Lo) (st : List AV) (σ : St) (E : EF) : bod en t mi pc L st σ E = ss en pc L st σ (fun pc' L' st' σ' => E t mi pc' L' st' σ') none := by
  unfold bod
  split <;> first | rfl | (rename_i heq; rw [heq] at hs; exact absurd hs (by decide)) | (rename_i heq; rw [heq] at hs; simp [isS] at hs)
theorem bcall_mono {en : Ent} {t mi pc : Nat} {L : Lo} {st : List AV} {σ : St} {E E' : EF} (h : ∀ t mi pc L st σ r, E t mi pc L st σ = some r → E' t mi pc L st σ = some r) {r : Res × St} (hr : bcall en t mi pc L st σ E = some r) : bcall en t mi pc L st σ E' = some r := by
  unfold bcall at hr ⊢
  split at hr
  · rename_i hc
    rw [if_pos hc]
    split at hr
    · cases hr
    · rename_i v σ' he
      rw [h _ _ _ _ _ _ _ he]
      exact h _ _ _ _ _ _ _ hr
    · rename_i X σ' he
      rw [h _ _ _ _ _ _ _ he]
      split at hr
      · rename_i hh; simp only [hh]; exact hr
      · rename_i q hh; simp only [hh]; exact h _ _ _ _ _ _ _ hr
  · cases hr
theorem nbod_mono {en : Ent} {t mi pc : Nat} {L : Lo} {st : List AV} {σ : St} {E E' : EF} (h : ∀ t mi pc L st σ r, E t mi pc L st σ = some r → E' t mi pc L st σ = some r) {r0 : Res × St} (hr : nbod en t mi pc L st σ E = some r0) : nbod en t mi pc L st σ E' = some r0 := by
  unfold nbod at hr ⊢
  by_cases q0 : en.2.2.1 = 1000
  · rw [if_pos q0] at hr ⊢
    cases st with
    | nil => cases hr
    | cons v r2 =>
      rcases v with z | z | z | z | z <;> first
        | (cases hr; done)
        | (change (if wt r2 ≤ 8 then E t mi (pc + 3) L (vL z.toBitVec :: r2) σ else none) = some r0 at hr
           show (if wt r2 ≤ 8 then E' t mi (pc + 3) L (vL z.toBitVec :: r2) σ else none) = some r0
           split at hr
           · rename_i hc; rw [if_pos hc]; exact h _ _ _ _ _ _ _ hr
           · cases hr)
  rw [if_neg q0] at hr ⊢
  by_cases q1 : en.2.2.1 = 1001
  · rw [if_pos q1] at hr ⊢
    cases st with
    | nil => cases hr
    | cons v r2 =>
      rcases v with z | z | z | z | z <;> first
        | (cases hr; done)
        | (change (if n64 (UInt64.ofBitVec z) ∧ wt r2 ≤ 8 then E t mi (pc + 3) L (vD (UInt64.ofBitVec z) :: r2) σ else none) = some r0 at hr
           show (if n64 (UInt64.ofBitVec z) ∧ wt r2 ≤ 8 then E' t mi (pc + 3) L (vD (UInt64.ofBitVec z) :: r2) σ else none) = some r0
           split at hr
           · rename_i hc; rw [if_pos hc]; exact h _ _ _ _ _ _ _ hr
           · cases hr)
  rw [if_neg q1] at hr ⊢
  by_cases q2 : en.2.2.1 = 1002
  · rw [if_pos q2] at hr ⊢
    cases st with
    | nil => cases hr
    | cons v r =>
      cases r with
      | nil => cases hr
      | cons w r2 =>
        rcases v with z | z | z | z | z <;> first
          | (cases hr; done)
          | (rcases w with y | y | y | y | y <;> first
              | (cases hr; done)
              | (change (if wt r2 ≤ 8 then E t mi (pc + 3) L (vL (lMin y z) :: r2) σ else none) = some r0 at hr
                 show (if wt r2 ≤ 8 then E' t mi (pc + 3) L (vL (lMin y z) :: r2) σ else none) = some r0
                 split at hr
                 · rename_i hc; rw [if_pos hc]; exact h _ _ _ _ _ _ _ hr
                 · cases hr))
  rw [if_neg q2] at hr ⊢
  exact bcall_mono h hr
theorem bod_mono {en : Ent} {t mi pc : Nat} {L : Lo} {st : List AV} {σ : St} {E E' : EF} (h : ∀ t mi pc L st σ r, E t mi pc L st σ = some r → E' t mi pc L st σ = some r) {r : Res × St} (hr : bod en t mi pc L st σ E = some r) : bod en t mi pc L st σ E' = some r := by
  by_cases hs : isS en.1 = true
  · rw [bod_ss hs] at hr ⊢
    rcases ss_nat en pc L st σ with ⟨a, b, c, d, h1, -⟩ | ⟨h1, -⟩
    · rw [h1] at hr ⊢; exact h _ _ _ _ _ _ _ hr
    · rw [h1] at hr; cases hr
  · obtain ⟨i, y⟩ := en
    cases i <;> first
      | exact absurd rfl hs
      | exact hr
      | exact nbod_mono h hr
      | (change (if rcv (st.take y.2.2.1) y.2.2.2.1 = true then bcall _ t mi pc L st σ E else none) = some r at hr
         show (if rcv (st.take y.2.2.1) y.2.2.2.1 = true then bcall _ t mi pc L st σ E' else none) = some r
         split at hr
         · rename_i hc; rw [if_pos hc]; exact bcall_mono h hr
         · cases hr)
theorem ex_mono1 : ∀ (n t mi pc : Nat) (L : Lo) (st : List AV) (σ : St) (r : Res × St), ex n t mi pc L st σ = some r → ex (n + 1) t mi pc L st σ = some r
  | 0, _, _, _, _, _, _, _, h => by cases h
  | n + 1, t, mi, pc, L, st, σ, r, h => by
    rw [ex_succ] at h ⊢
    split at h
    · cases h
    · rename_i en he
      exact bod_mono (fun t mi pc L st σ r hr => ex_mono1 n t mi pc L st σ r hr) h
theorem ex_mono {n k t mi pc : Nat} {L : Lo} {st : List AV} {σ : St} {r : Res × St} (h : ex n t mi pc L st σ = some r) (hk : n ≤ k) : ex k t mi pc L st σ = some r := by
  induction hk with
  | refl => exact h
  | step _ ih => exact ex_mono1 _ _ _ _ _ _ _ _ ih
theorem wp_iff {t mi pc : Nat} {L : Lo} {st : List AV} {σ : St} {Q : Res → St → Prop} {en : Ent} (h : cd mi pc = some en) : wp t mi pc L st σ Q ↔ ∃ (n : Nat) (r : Res) (σ' : St), bod en t mi pc L st σ (ex n) = some (r, σ') ∧ Q r σ' := by
  constructor
  · rintro ⟨n, r, σ', h1, h2⟩
    cases n with
    | zero => cases h1
    | succ n => rw [ex_succ, h] at h1; exact ⟨n, r, σ', h1, h2⟩
  · rintro ⟨n, r, σ', h1, h2⟩
    exact ⟨n + 1, r, σ', by rw [ex_succ, h]; exact h1, h2⟩
theorem wp_ss {t mi pc : Nat} {L : Lo} {st : List AV} {σ : St} {Q : Res → St → Prop} {en : Ent} (h : cd mi pc = some en) (hs : isS en.1 = true) : wp t mi pc L st σ Q ↔ ss en pc L st σ (fun pc' L' st' σ' => wp t mi pc' L' st' σ' Q) False := by
  rw [wp_iff h]
  simp only [bod_ss hs]
  rcases ss_nat en pc L st σ with ⟨a, b, c, d, h1, h2⟩ | ⟨h1, h2⟩
  · rw [h2]
    simp only [h1]
    exact Iff.rfl
  · rw [h2]
    simp only [h1]
    simp
theorem wp_ireturn {t mi pc l x : Nat} {y : Nat × (Nat × Int)} {L : Lo} {st : List AV} {σ : St} {Q : Res → St → Prop} {z : Int} (h : cd mi pc = some (.ireturn, l, x, y)) : wp t mi pc L [vI z] σ Q ↔ ((x = 1 → (z = 0 ∨ z = 1)) ∧ Q (.inl (some (vI z))) σ) := by
  rw [wp_iff h]
  show (∃ (n : Nat) (r : Res) (σ' : St), (if x = 1 → (z = 0 ∨ z = 1) then some ((.inl (some (vI z)), σ) : Res × St) else none) = some (r, σ') ∧ Q r σ') ↔ _
  by_cases hc : x = 1 → (z = 0 ∨ z = 1)
  · rw [if_pos hc]
    constructor
    · rintro ⟨-, r, σ', h1, h2⟩
      cases h1
      exact ⟨hc, h2⟩
    · rintro ⟨-, h2⟩
      exact ⟨0, _, _, rfl, h2⟩
  · rw [if_neg hc]
    constructor
    · rintro ⟨-, r, σ', h1, h2⟩
      cases h1
    · rintro ⟨h1, -⟩
      exact absurd h1 hc
theorem wp_end {t mi pc : Nat} {L : Lo} {st : List AV} {σ : St} {Q : Res → St → Prop} {en : Ent} {r : Res} (h : cd mi pc = some en) (hb : ∀ E, bod en t mi pc L st σ E = some (r, σ)) : wp t mi pc L st σ Q ↔ Q r σ := by
  rw [wp_iff h]
  constructor
  · rintro ⟨n, r', σ', h1, h2⟩
    rw [hb] at h1
    cases h1
    exact h2
  · intro h2
    exact ⟨0, _, _, hb _, h2⟩
theorem wp_lreturn {t mi pc : Nat} {y : Nat × (Nat × (Nat × (Nat × Int)))} {L : Lo} {st : List AV} {σ : St} {Q : Res → St → Prop} {z : BitVec 64} (h : cd mi pc = some (.lreturn, y)) : wp t mi pc L [vL z] σ Q ↔ Q (.inl (some (vL z))) σ := wp_end h (fun _ => rfl)
theorem wp_dreturn {t mi pc : Nat} {y : Nat × (Nat × (Nat × (Nat × Int)))} {L : Lo} {st : List AV} {σ : St} {Q : Res → St → Prop} {z : UInt64} (h : cd mi pc = some (.dreturn, y)) : wp t mi pc L [vD z] σ Q ↔ Q (.inl (some (vD z))) σ := wp_end h (fun _ => rfl)
theorem wp_freturn {t mi pc : Nat} {y : Nat × (Nat × (Nat × (Nat × Int)))} {L : Lo} {st : List AV} {σ : St} {Q : Res → St → Prop} {z : UInt32} (h : cd mi pc = some (.freturn, y)) : wp t mi pc L [vF z] σ Q ↔ Q (.inl (some (vF z))) σ := wp_end h (fun _ => rfl)
theorem wp_areturn {t mi pc : Nat} {y : Nat × (Nat × (Nat × (Nat × Int)))} {L : Lo} {st : List AV} {σ : St} {Q : Res → St → Prop} {z : Nat} (h : cd mi pc = some (.areturn, y)) : wp t mi pc L [vR z] σ Q ↔ Q (.inl (some (vR z))) σ := wp_end h (fun _ => rfl)
theorem wp_return {t mi pc : Nat} {y : Nat × (Nat × (Nat × (Nat × Int)))} {L : Lo} {st : List AV} {σ : St} {Q : Res → St → Prop} (h : cd mi pc = some (.return_, y)) : wp t mi pc L [] σ Q ↔ Q (.inl none) σ := wp_end h (fun _ => rfl)
theorem wp_throw {t mi pc i l x : Nat} {y : Nat × Int} {L : Lo} {σ : St} {Q : Res → St → Prop} (h : cd mi pc = some (.new i, l, x, 1, y)) : wp (t + 1) mi pc L [] σ Q ↔ Q (.inr x) σ := wp_end h (fun E => by
  show (if (1 : Nat) = 1 ∧ 1 ≤ t + 1 ∧ ([] : List AV) = [] then some ((.inr x, σ) : Res × St) else none) = _
  exact if_pos ⟨rfl, Nat.le_add_left 1 t, rfl⟩)
def xgo (o : Option (Nat × Nat)) (F : Nat × Nat → Prop) (G : Prop) : Prop := match o with | none => G | some q => F q
theorem wp_bcall {t mi pc : Nat} {L : Lo} {st : List AV} {σ : St} {Q : Res → St → Prop} {en : Ent} : (∃ (n : Nat) (r : Res) (σ' : St), bcall en t mi pc L st σ (ex n) = some (r, σ') ∧ Q r σ') ↔
    (en.2.2.2.1 ≤ st.length ∧ wt (st.drop en.2.2.2.1) ≤ 8 ∧ wt (st.take en.2.2.2.1) ≤ mL en.2.2.1 ∧ en.2.2.2.2.2.toNat ≤ t) ∧ Call en.2.2.2.2.2.toNat en.2.2.1 (st.take en.2.2.2.1).reverse σ (fun r σ' => aft r (fun vs => wp (t - en.2.2.2.2.2.toNat) mi (pc + 3) L (vs ++ st.drop en.2.2.2.1) σ' Q) (fun X => xgo (hd mi pc X) (fun q => wp (t - en.2.2.2.2.2.toNat) mi q.1 (lkill L q.2) [] σ' Q) (Q (.inr X) σ'))) := by
  constructor
  · rintro ⟨n, r, σ', h1, h2⟩
    unfold bcall at h1
    split at h1
    · rename_i hc
      refine ⟨hc, ?_⟩
      split at h1
      · cases h1
      · rename_i v σ1 he
        exact ⟨n, _, _, he, ⟨n, _, _, h1, h2⟩⟩
      · rename_i X σ1 he
        refine ⟨n, _, _, he, ?_⟩
        show xgo (hd mi pc X) _ _
        split at h1
        · rename_i hh; rw [hh]; cases h1; exact h2
        · rename_i q hh; rw [hh]; exact ⟨n, _, _, h1, h2⟩
    · cases h1
  · rintro ⟨hc, n, r, σ1, h1, h2⟩
    rcases r with v | X
    · obtain ⟨k, r2, σ2, h3, h4⟩ := h2
      refine ⟨n + k, r2, σ2, ?_, h4⟩
      unfold bcall
      rw [if_pos hc, ex_mono h1 (Nat.le_add_right n k)]
      exact ex_mono h3 (Nat.le_add_left k n)
    · change xgo (hd mi pc X) _ _ at h2
      cases hh : hd mi pc X with
      | none =>
        rw [hh] at h2
        refine ⟨n, _, _, ?_, h2⟩
        unfold bcall
        rw [if_pos hc, h1]
        simp only [hh]
      | some q =>
        rw [hh] at h2
        obtain ⟨k, r2, σ2, h3, h4⟩ := h2
        refine ⟨n + k, r2, σ2, ?_, h4⟩
        unfold bcall
        rw [if_pos hc, ex_mono h1 (Nat.le_add_right n k)]
        simp only [hh]
        exact ex_mono h3 (Nat.le_add_left k n)
theorem wp_calls {t mi pc i : Nat} {L : Lo} {st : List AV} {σ : St} {Q : Res → St → Prop} {y : Nat × (Nat × (Nat × (Nat × Int)))} (h : cd mi pc = some (.invokestatic i, y)) (hx : Nat.blt y.2.1 1000 = true) : wp t mi pc L st σ Q ↔
    (y.2.2.1 ≤ st.length ∧ wt (st.drop y.2.2.1) ≤ 8 ∧ wt (st.take y.2.2.1) ≤ mL y.2.1 ∧ y.2.2.2.2.toNat ≤ t) ∧ Call y.2.2.2.2.toNat y.2.1 (st.take y.2.2.1).reverse σ (fun r σ' => aft r (fun vs => wp (t - y.2.2.2.2.toNat) mi (pc + 3) L (vs ++ st.drop y.2.2.1) σ' Q) (fun X => xgo (hd mi pc X) (fun q => wp (t - y.2.2.2.2.toNat) mi q.1 (lkill L q.2) [] σ' Q) (Q (.inr X) σ'))) := by
  rw [wp_iff h]
  have h9 : y.2.1 < 1000 := by simpa [Nat.blt_eq] using hx
  have e : ∀ n, bod (.invokestatic i, y) t mi pc L st σ (ex n) = bcall (.invokestatic i, y) t mi pc L st σ (ex n) := fun n => by
    show nbod (.invokestatic i, y) t mi pc L st σ (ex n) = _
    unfold nbod
    rw [if_neg (show ¬ y.2.1 = 1000 by omega), if_neg (show ¬ y.2.1 = 1001 by omega), if_neg (show ¬ y.2.1 = 1002 by omega)]
  simp only [e]
  exact wp_bcall (en := (.invokestatic i, y))
theorem wp_callv {t mi pc i : Nat} {L : Lo} {st : List AV} {σ : St} {Q : Res → St → Prop} {y : Nat × (Nat × (Nat × (Nat × Int)))} (h : cd mi pc = some (.invokevirtual i, y)) : wp t mi pc L st σ Q ↔
    rcv (st.take y.2.2.1) y.2.2.2.1 = true ∧ (y.2.2.1 ≤ st.length ∧ wt (st.drop y.2.2.1) ≤ 8 ∧ wt (st.take y.2.2.1) ≤ mL y.2.1 ∧ y.2.2.2.2.toNat ≤ t) ∧ Call y.2.2.2.2.toNat y.2.1 (st.take y.2.2.1).reverse σ (fun r σ' => aft r (fun vs => wp (t - y.2.2.2.2.toNat) mi (pc + 3) L (vs ++ st.drop y.2.2.1) σ' Q) (fun X => xgo (hd mi pc X) (fun q => wp (t - y.2.2.2.2.toNat) mi q.1 (lkill L q.2) [] σ' Q) (Q (.inr X) σ'))) := by
  rw [wp_iff h]
  show (∃ (n : Nat) (r : Res) (σ' : St), (if rcv (st.take y.2.2.1) y.2.2.2.1 = true then bcall (.invokevirtual i, y) t mi pc L st σ (ex n) else none) = some (r, σ') ∧ Q r σ') ↔ _
  by_cases hc : rcv (st.take y.2.2.1) y.2.2.2.1 = true
  · simp only [if_pos hc]
    rw [wp_bcall (en := (.invokevirtual i, y))]
    exact ⟨fun h => ⟨hc, h⟩, fun h => h.2⟩
  · simp only [if_neg hc]
    constructor
    · rintro ⟨_, _, _, h1, _⟩; cases h1
    · rintro ⟨h1, _⟩; exact absurd h1 hc
theorem wp_mono {t mi pc : Nat} {L : Lo} {st : List AV} {σ : St} {Q Q' : Res → St → Prop} (hq : ∀ r σ', Q r σ' → Q' r σ') (h : wp t mi pc L st σ Q) : wp t mi pc L st σ Q' := by
  obtain ⟨n, r, σ', h1, h2⟩ := h
  exact ⟨n, r, σ', h1, hq _ _ h2⟩
theorem Call.mono {b y : Nat} {as : List AV} {σ : St} {Q Q' : Res → St → Prop} (h : Call b y as σ Q) (hq : ∀ r σ', Q r σ' → Q' r σ') : Call b y as σ Q' := wp_mono hq h
