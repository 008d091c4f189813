/-! arrays of references -/
abbrev rA (f : Nat → Option Nat) : (Nat → Int32) ⊕ (Nat → Int64) ⊕ (Nat → UInt32) ⊕ (Nat → UInt64) ⊕ (Nat → Option Nat) := .inr (.inr (.inr (.inr f)))
def updR (f : Nat → Option Nat) (k : Nat) (v : Option Nat) : Nat → Option Nat := fun j => if j = k then v else f j
theorem vpc_cls (cA : ClassId) (x : vp_A) : (vp_cell cA x).cls = cA ∧ (vp_cell cA x).vm = .none := by
  obtain ⟨n, f | f | f | f | f⟩ := x <;> exact ⟨rfl, rfl⟩
section JAR
variable {Γ : JG} {μ : MD} {pc : Nat} {L : Lo} {st : List AV} {w : va_W} {t : Nat} {Q : JQ}
theorem j_anew {y idx : Nat} {cA : ClassId} {ty : FieldType} {n : Int} (d : decode μ.2.1 pc = .ok (.anewarray idx, 3)) (hy : (tyB Γ.2.1)[y]? = some (cA, .array ty)) (h1 : Cond.classLink μ.1.cls idx (FieldType.array ty).toString ∈ TS) (h2 : ty ∈ jAO) (h0 : 0 ≤ n ∧ n ≤ 1000) (ht : 1 + n.toNat ≤ t) (kk : ∀ q, J Γ μ (pc + 3) L (vR q :: st) (w ++ [(q, .inl (cA, n.toNat, rA (fun _ => none)))]) (t - (1 + n.toNat)) Q) : J Γ μ pc L (vI n :: st) w t Q := by
  intro p e R s m args below meth c H locs cells slots ls Qs B E hc hs hl hP hD hS
  have hk := B.kj.2 y _ hy
  have e0 := n_nat h0.1 (show n < 2147483648 by omega)
  refine W.anewA B.1 B.2.1 B.2.2.2.1 (B.wd _ h1) (over_moved (State.WarmedH.refl _).alike (B.2.2.2.2.2.2.1.2.2.2.2.2 ty h2)) rfl d rfl (nn0 h0) (by rw [e0]; omega) (by omega) (by rw [e0]; omega) (fun c9 kA comp g1 g2 g3 g4 => ?_)
  have e9 : c9 = cA := Option.some.inj (g1.symm.trans hk.2)
  subst e9
  rw [e0]
  have oq : ∀ q, q < H.size → (H.push { cls := c9, slots := Array.replicate n.toNat .null, vm := .none })[q]? = H[q]? := fun q hq => by
    rw [Array.getElem?_push, if_neg (Nat.ne_of_lt hq)]
  refine kk H.size p e R s m args below meth c _ locs (cells + 1) (slots + n.toNat) ls Qs B E (by omega) (by omega) hl ((hP.kept (fun k x hx => oq x.1 (hP k x hx).lt)).app (fun k x hx => ?_)) (hD.push hP rfl (B.lo _ hS.1)) ⟨Nat.le_trans hS.1 (by rw [Array.size_push]; omega), fun x h1 h2 => (oq x (Nat.lt_of_lt_of_le h1 hS.1)).trans (hS.2.1 x h1 h2), hS.2.2⟩
  have hz : k < 1 := (List.getElem?_eq_some_iff.mp hx).1
  rw [show k = 0 by omega] at hx
  cases hx
  show (H.push _)[H.size]? = some (vp_cell _ _)
  rw [vp_cell_q, show (fun j : Nat => va_rf ((fun _ => none : Nat → Option Nat) j)) = fun _ => Value.null from rfl, ← arrV_new]
  simp
theorem j_aald {i a n y b : Nat} {cA : ClassId} {ty : FieldType} {f : Nat → Option Nat} {z : Int} (d : decode μ.2.1 pc = .ok (.aaload, 1)) (h : w[i]? = some (a, .inl (cA, n, rA f))) (hy : (tyB Γ.2.1)[y]? = some (cA, .array ty)) (h0 : 0 ≤ z ∧ z < n) (hn : n < 2147483648) (hv : f z.toNat = some b) (kk : J Γ μ (pc + 1) L (vR b :: st) w t Q) : J Γ μ pc L (vI z :: vR a :: st) w t Q := by
  intro p e R s m args below meth c H locs cells slots ls Qs B E hc hs hl hP hD hS
  have k1 := kk p e R s m args below meth c H locs cells slots ls Qs B E hc hs hl hP hD hS
  have hin : vp_in (Int32.ofInt z) n := n_in h0.1 h0.2 hn
  have e0 := n_nat h0.1 (show z < 2147483648 by omega)
  refine W.aald (v := .ref b) B.1 B.2.1 (hP i _ h) ((B.kj.2 y _ hy).1 n (fun j => va_rf (f j))) rfl (fun q => by cases q) (by show ¬ (_ < 0 ∨ (arrV _ _ _).slots.size ≤ _); rw [arrV_size]; exact hin) ?_ rfl rfl d k1
  show (arrV _ _ _).slots[_]? = _
  rw [e0, arrV_read _ _ (show z.toNat < n by omega), hv]
  rfl
theorem j_aast {i a n y2 b i2 : Nat} {cA cB : ClassId} {ty ty2 : FieldType} {f : Nat → Option Nat} {x2 : vp_A} {z : Int} (d : decode μ.2.1 pc = .ok (.aastore, 1)) (h : w[i]? = some (a, .inl (cA, n, rA f))) (hk : ∀ s, CJ Γ s → KK cA cB ty s) (href : ty.isReference = true) (h2 : w[i2]? = some (b, .inl (cB, x2))) (hy2 : (tyB Γ.2.1)[y2]? = some (cB, ty2)) (h0 : 0 ≤ z ∧ z < n) (hn : n < 2147483648) (kk : J Γ μ (pc + 1) L st (w.set i (a, .inl (cA, n, rA (updR f z.toNat (some b))))) t Q) : J Γ μ pc L (vR b :: vI z :: vR a :: st) w t Q := by
  intro p e R s m args below meth c H locs cells slots ls Qs B E hc hs hl hP hD hS
  obtain ⟨k, hk1, hk2⟩ := hk s B.2.2.2.2.2.2.1
  obtain ⟨kB, hB, -⟩ := ((B.kj.2 y2 _ hy2).1 0 (fun _ => .null)).2
  have hB : s.vm.classes[cB]? = some kB := hB
  have e0 := n_nat h0.1 (show z < 2147483648 by omega)
  have hin : vp_in (Int32.ofInt z) n := n_in h0.1 h0.2 hn
  have hb1 := vpc_cls cB x2
  refine W.aast B.1 B.2.1 (hP i _ h) (fun q => by rw [(vpc_cls _ _).2]; intro k; cases k) (by rw [(vpc_cls _ _).2]; intro k; cases k) (k := k) (by rw [(vpc_cls _ _).1]; exact hk1) hk2 href hB ?_ (hP i2 _ h2) (fun q => by rw [(vpc_cls _ _).2]; intro k; cases k) (by rw [(vpc_cls _ _).1]; exact hB) (by rw [(vpc_cls _ _).1]; exact va_asg _ _) rfl rfl d (fun H1 e1 z1 oq => ?_)
  · show ¬ (_ : Int32) < 0 ∧ _ < (arrV _ _ _).slots.size
    rw [arrV_size]
    exact ⟨fun q => hin (Or.inl q), Nat.not_le.mp fun q => hin (Or.inr q)⟩
  · rw [e0] at e1
    refine kk p e R s m args below meth c H1 _ cells slots ls Qs B E hc hs hl (hP.set hD h ?_ oq) (hD.set h) (hS.put z1 oq (hD.2 i _ h))
    show H1[a]? = some (vp_cell _ _)
    rw [e1, vp_cell_q, vp_cell_q, arrV_store]
    congr 2
    funext q
    by_cases hq : q = z.toNat
    · subst hq
      simp [updV, updR, va_rf]
    · simp [updV, updR, hq]
end JAR
