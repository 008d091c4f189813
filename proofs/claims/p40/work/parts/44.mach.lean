/-! the pure machine, on the class's cells -/
def mwr (a p : Int) (s : St) : St := if p = 0 then sI s 47 a p else sL (sI s 47 a p) 49 (gI s 48 a) (gL s 49 (gI s 48 a) ||| (BitVec.ofNat 64 1 <<< sh6 (gI s 48 p)))
def mtk (c n : Int) (s : St) : St := sI (upI (upI s 47 (fun j => if gI s 46 7 ≤ j ∧ j < gI s 46 7 + n then 0 else gI s 47 j)) 48 (fun j => if gI s 46 7 ≤ j ∧ j < gI s 46 7 + n then c + (j - gI s 46 7) else gI s 48 j)) 46 7 (gI s 46 7 + n)
def mop (P : Pg) (f : Int) (s : St) : St := sI (sI (mtk (4 + 4 * f) 4 (sI (sI s 50 (gI s 46 6) f) 51 (gI s 46 6) (stt P f))) 52 (gI s 46 6) (gI s 46 7)) 46 6 (gI s 46 6 + 1)
def madr (v : Int) (s : St) : Int := if v < 4 then 1 + v else gI s 52 (gI s 46 6 - 1) + (v - 4) % 4
def mfl (s : St) : St := sI s 46 9 (gI s 46 9 + 1)
def mex1 (P : Pg) (n l r : Int) (s : St) : St :=
  if kd P n = 0 then mwr l r s
  else if kd P n = 1 then mwr l (gI s 47 r) s
  else if kd P n = 2 then (if gI s 47 r = 0 then mfl s else mwr l (gI s 47 (gI s 47 r)) s)
  else if kd P n = 3 then (if gI s 47 l = 0 then mfl s else mwr (gI s 47 l) (gI s 47 r) s)
  else if kd P n = 4 then mwr l (gI s 46 7) (mtk (20 + 3 * sn P n + 0) 3 (sI s 46 10 (gI s 46 10 + 1)))
  else if kd P n = 5 then (if gI s 47 r = 0 ∨ nn P n = 0 then mwr l (gI s 47 r) s else if gI s 48 (gI s 47 r) - 20 < 0 ∨ ¬ ((gI s 48 (gI s 47 r) - 20) % 3 + nn P n < 3) then mfl s else mwr l (gI s 47 r + nn P n) s)
  else (if gI s 46 6 < 6 ∧ gI s 46 8 < 200 then mwr (madr (4 + 4 * nn P n) (mop P (nn P n) s)) (gI s 47 r) (mop P (nn P n) s) else s)
def mex (P : Pg) (n : Int) (s : St) : St := mex1 P n (madr (vv P n) s) (madr (ww P n) s) (sI s 46 8 (gI s 46 8 + 1))
def mcl (P : Pg) (s : St) : St :=
  if 0 < gI s 46 6 - 1 then mwr (madr (vv P (gI s 51 (gI s 46 6 - 1 - 1) - 1)) (sI s 46 6 (gI s 46 6 - 1))) (gI s 47 (madr (4 + 4 * gI s 50 (gI s 46 6 - 1) + 1) s)) (sI s 46 6 (gI s 46 6 - 1))
  else sI s 46 6 (gI s 46 6 - 1)
def mst (P : Pg) (s : St) : St :=
  if gI s 51 (gI s 46 6 - 1) < stt P (gI s 50 (gI s 46 6 - 1) + 1) then mex P (gI s 51 (gI s 46 6 - 1)) (sI s 51 (gI s 46 6 - 1) (gI s 51 (gI s 46 6 - 1) + 1))
  else mcl P s
def mgo (s : St) : Prop := 0 < gI s 46 6 ∧ gI s 46 8 < 200
def mit (P : Pg) : Nat → St → St
  | 0, s => s
  | k + 1, s => mit P k (mst P s)
theorem mit_succ (P : Pg) : ∀ (k : Nat) (s : St), mit P (k + 1) s = mst P (mit P k s)
  | 0, _ => rfl
  | k + 1, s => by show mit P (k + 1) (mst P s) = mst P (mit P k (mst P s)); exact mit_succ P k (mst P s)
/-- the machine at its start, but for its first activation -/
def mcr (s : St) : St := mtk 0 4 (upL (sI (sI (sI (sI (sI s 46 6 0) 46 7 1) 46 8 0) 46 9 0) 46 10 0) 49 (fun j => if 0 ≤ j ∧ j < (ln 49 : Int) then BitVec.ofNat 64 0 else gL s 49 j))
def ms0 (P : Pg) (s : St) : St := mop P 0 (mcr s)
/-! cells of such states -/
theorem mwr_47 {a p : Int} {s : St} : gI (mwr a p s) 47 = fun j => if j = a then p else gI s 47 j := by
  unfold mwr
  by_cases h : p = 0
  · rw [if_pos h, gI_row]
  · rw [if_neg h]
    show gI (sI s 47 a p) 47 = _
    rw [gI_row]
theorem mwr_ne {a p : Int} {s : St} {c : Nat} (hc : c ≠ 47) : gI (mwr a p s) c = gI s c := by
  unfold mwr
  by_cases h : p = 0
  · rw [if_pos h, gI_rne hc]
  · rw [if_neg h]
    show gI (sI s 47 a p) c = _
    rw [gI_rne hc]
theorem mtk_47 {c n : Int} {s : St} : gI (mtk c n s) 47 = fun j => if gI s 46 7 ≤ j ∧ j < gI s 46 7 + n then 0 else gI s 47 j := rfl
theorem mtk_48 {c n : Int} {s : St} : gI (mtk c n s) 48 = fun j => if gI s 46 7 ≤ j ∧ j < gI s 46 7 + n then c + (j - gI s 46 7) else gI s 48 j := rfl
theorem mtk_46 {c n : Int} {s : St} {j : Int} : gI (mtk c n s) 46 j = if j = 7 then gI s 46 7 + n else gI s 46 j := by
  show (if 46 = 46 ∧ j = 7 then _ else _) = _
  by_cases h : j = 7
  · rw [if_pos ⟨rfl, h⟩, if_pos h]
  · rw [if_neg (fun k => h k.2), if_neg h]; rfl
theorem mtk_ne {c n : Int} {s : St} {d : Nat} (h1 : d ≠ 46) (h2 : d ≠ 47) (h3 : d ≠ 48) : gI (mtk c n s) d = gI s d := funext fun j => by
  show (if d = 46 ∧ j = 7 then _ else _) = _
  rw [if_neg (fun k => h1 k.1)]
  show (if d = 48 then _ else _) = _
  rw [if_neg h3]
  show (if d = 47 then _ else _) = _
  rw [if_neg h2]; rfl
theorem mtk_L {c n : Int} {s : St} : gL (mtk c n s) = gL s := rfl
theorem mop_46 {P : Pg} {f : Int} {s : St} {j : Int} : gI (mop P f s) 46 j = if j = 6 then gI s 46 6 + 1 else if j = 7 then gI s 46 7 + 4 else gI s 46 j := by
  unfold mop
  rw [gI_sI]
  by_cases h : j = 6
  · rw [if_pos ⟨rfl, h⟩, if_pos h]
  · rw [if_neg (fun k => h k.2), if_neg h, gI_sI, if_neg (by omega), mtk_46]
    by_cases h2 : j = 7
    · rw [if_pos h2, if_pos h2]; rfl
    · rw [if_neg h2, if_neg h2]; rfl
theorem mop_47 {P : Pg} {f : Int} {s : St} : gI (mop P f s) 47 = fun j => if gI s 46 7 ≤ j ∧ j < gI s 46 7 + 4 then 0 else gI s 47 j := rfl
theorem mop_48 {P : Pg} {f : Int} {s : St} : gI (mop P f s) 48 = fun j => if gI s 46 7 ≤ j ∧ j < gI s 46 7 + 4 then 4 + 4 * f + (j - gI s 46 7) else gI s 48 j := rfl
theorem mop_50 {P : Pg} {f : Int} {s : St} : gI (mop P f s) 50 = fun j => if j = gI s 46 6 then f else gI s 50 j := by
  show gI (mtk (4 + 4 * f) 4 (sI (sI s 50 (gI s 46 6) f) 51 (gI s 46 6) (stt P f))) 50 = _
  rw [mtk_ne (by decide) (by decide) (by decide), gI_rne (by decide), gI_row]
theorem mop_51 {P : Pg} {f : Int} {s : St} : gI (mop P f s) 51 = fun j => if j = gI s 46 6 then stt P f else gI s 51 j := by
  show gI (mtk (4 + 4 * f) 4 (sI (sI s 50 (gI s 46 6) f) 51 (gI s 46 6) (stt P f))) 51 = _
  rw [mtk_ne (by decide) (by decide) (by decide), gI_row, gI_rne (by decide)]
theorem mop_52 {P : Pg} {f : Int} {s : St} : gI (mop P f s) 52 = fun j => if j = gI s 46 6 then gI s 46 7 else gI s 52 j := by
  show gI (sI (mtk (4 + 4 * f) 4 (sI (sI s 50 (gI s 46 6) f) 51 (gI s 46 6) (stt P f))) 52 (gI s 46 6) (gI s 46 7)) 52 = _
  rw [gI_row, mtk_ne (by decide) (by decide) (by decide), gI_rne (by decide), gI_rne (by decide)]
/-- what a machine's state keeps -/
def WFf (P : Pg) (D U X fa ob : Int) (m c f n r : Int → Int) : Prop :=
  (0 ≤ D ∧ D ≤ 6) ∧ ((0 ≤ X ∧ X ≤ 200) ∧ ((5 ≤ U ∧ U ≤ 9 + 4 * X) ∧ (((0 ≤ fa ∧ fa ≤ X) ∧ (0 ≤ ob ∧ ob ≤ X)) ∧
  ((∀ a, 1 ≤ a → a < U → (0 ≤ m a ∧ m a < U) ∧ (0 ≤ c a ∧ c a < 44)) ∧
  ((∀ a k, 1 ≤ a → a < U → 20 ≤ c a → 0 ≤ k → (c a - 20) % 3 + k ≤ 2 → a + k < U ∧ c (a + k) = c a + k) ∧
  ((∀ i, 0 ≤ i → i < D → (0 ≤ f i ∧ f i ≤ 3) ∧ ((stt P (f i) ≤ n i ∧ n i ≤ stt P (f i + 1)) ∧ (5 ≤ r i ∧ r i + 3 < U))) ∧
  (∀ i, 0 ≤ i → i + 1 < D → stt P (f i) < n i)))))))
def WFM (P : Pg) (s : St) : Prop := WFf P (gI s 46 6) (gI s 46 7) (gI s 46 8) (gI s 46 9) (gI s 46 10) (gI s 47) (gI s 48) (gI s 50) (gI s 51) (gI s 52)
theorem WF_mem {P : Pg} {D U X fa ob : Int} {m c f n r : Int → Int} (h : WFf P D U X fa ob m c f n r) {a p : Int} (hp : 0 ≤ p ∧ p < U) : WFf P D U X fa ob (fun j => if j = a then p else m j) c f n r := by
  obtain ⟨h1, h2, h3, h4, h5, h6, h7, h8⟩ := h
  refine ⟨h1, h2, h3, h4, fun b b0 b1 => ⟨?_, (h5 b b0 b1).2⟩, h6, h7, h8⟩
  show 0 ≤ (if b = a then p else m b) ∧ (if b = a then p else m b) < U
  by_cases q : b = a
  · rw [if_pos q]; exact hp
  · rw [if_neg q]; exact (h5 b b0 b1).1
theorem WF_X {P : Pg} {D U X fa ob X' : Int} {m c f n r : Int → Int} (h : WFf P D U X fa ob m c f n r) (hx : X ≤ X' ∧ X' ≤ 200) : WFf P D U X' fa ob m c f n r := by
  obtain ⟨h1, h2, h3, h4, h5⟩ := h
  exact ⟨h1, by omega, by omega, by omega, h5⟩
theorem WF_fa {P : Pg} {D U X fa ob fa' : Int} {m c f n r : Int → Int} (h : WFf P D U X fa ob m c f n r) (hx : 0 ≤ fa' ∧ fa' ≤ X) : WFf P D U X fa' ob m c f n r := by
  obtain ⟨h1, h2, h3, h4, h5⟩ := h
  exact ⟨h1, h2, h3, ⟨hx, h4.2⟩, h5⟩
theorem WF_ob {P : Pg} {D U X fa ob ob' : Int} {m c f n r : Int → Int} (h : WFf P D U X fa ob m c f n r) (hx : 0 ≤ ob' ∧ ob' ≤ X) : WFf P D U X fa ob' m c f n r := by
  obtain ⟨h1, h2, h3, h4, h5⟩ := h
  exact ⟨h1, h2, h3, ⟨h4.1, hx⟩, h5⟩
theorem WF_tk {P : Pg} {D U X fa ob : Int} {m c f n r : Int → Int} (h : WFf P D U X fa ob m c f n r) {k c0 : Int} (hk : 0 ≤ k ∧ U + k ≤ 9 + 4 * X) (hc : 0 ≤ c0 ∧ c0 + k ≤ 44) (h20 : c0 + k ≤ 20 ∨ (k = 3 ∧ 20 ≤ c0 ∧ (c0 - 20) % 3 = 0)) :
    WFf P D (U + k) X fa ob (fun j => if U ≤ j ∧ j < U + k then 0 else m j) (fun j => if U ≤ j ∧ j < U + k then c0 + (j - U) else c j) f n r := by
  obtain ⟨h1, h2, h3, h4, h5, h6, h7, h8⟩ := h
  refine ⟨h1, h2, ⟨by omega, hk.2⟩, h4, fun a a0 a1 => ⟨?_, ?_⟩, fun a j a0 a1 a2 j0 j1 => ?_, fun i i0 i1 => ⟨(h7 i i0 i1).1, (h7 i i0 i1).2.1, (h7 i i0 i1).2.2.1, ?_⟩, h8⟩
  · show 0 ≤ (if U ≤ a ∧ a < U + k then 0 else m a) ∧ (if U ≤ a ∧ a < U + k then 0 else m a) < U + k
    by_cases q : U ≤ a ∧ a < U + k
    · rw [if_pos q]; omega
    · rw [if_neg q]; have := (h5 a a0 (by omega)).1; omega
  · show 0 ≤ (if U ≤ a ∧ a < U + k then c0 + (a - U) else c a) ∧ (if U ≤ a ∧ a < U + k then c0 + (a - U) else c a) < 44
    by_cases q : U ≤ a ∧ a < U + k
    · rw [if_pos q]; omega
    · rw [if_neg q]; exact (h5 a a0 (by omega)).2
  · revert a2 j1
    show 20 ≤ (if U ≤ a ∧ a < U + k then c0 + (a - U) else c a) → ((if U ≤ a ∧ a < U + k then c0 + (a - U) else c a) - 20) % 3 + j ≤ 2 → a + j < U + k ∧ (if U ≤ a + j ∧ a + j < U + k then c0 + (a + j - U) else c (a + j)) = (if U ≤ a ∧ a < U + k then c0 + (a - U) else c a) + j
    by_cases q : U ≤ a ∧ a < U + k
    · rw [if_pos q]
      intro a2 j1
      have e : a + j < U + k := by omega
      rw [if_pos ⟨by omega, e⟩]
      exact ⟨e, by omega⟩
    · rw [if_neg q]
      intro a2 j1
      have e := h6 a j a0 (by omega) a2 j0 j1
      rw [if_neg (by omega)]
      exact ⟨by omega, e.2⟩
  · have := (h7 i i0 i1).2.2.2; omega
theorem WF_nx {P : Pg} {D U X fa ob : Int} {m c f n r : Int → Int} (h : WFf P D U X fa ob m c f n r) {i v : Int} (hi : i = D - 1) (hv : stt P (f i) < v ∧ v ≤ stt P (f i + 1)) : WFf P D U X fa ob m c f (fun j => if j = i then v else n j) r := by
  obtain ⟨h1, h2, h3, h4, h5, h6, h7, h8⟩ := h
  refine ⟨h1, h2, h3, h4, h5, h6, fun j j0 j1 => ⟨(h7 j j0 j1).1, ?_, (h7 j j0 j1).2.2⟩, fun j j0 j1 => ?_⟩
  · show stt P (f j) ≤ (if j = i then v else n j) ∧ (if j = i then v else n j) ≤ stt P (f j + 1)
    by_cases q : j = i
    · rw [if_pos q, q]; omega
    · rw [if_neg q]; exact (h7 j j0 j1).2.1
  · show stt P (f j) < (if j = i then v else n j)
    rw [if_neg (by omega)]; exact h8 j j0 j1
theorem WF_push {P : Pg} (hz : okZ P) {D U X fa ob g : Int} {m c f n r : Int → Int} (h : WFf P D U X fa ob m c f n r) (hD : D < 6) (hg : 0 ≤ g ∧ g ≤ 3) (hn : 0 < D → stt P (f (D - 1)) < n (D - 1)) (hu : U + 4 ≤ 9 + 4 * X) :
    WFf P (D + 1) (U + 4) X fa ob (fun j => if U ≤ j ∧ j < U + 4 then 0 else m j) (fun j => if U ≤ j ∧ j < U + 4 then 4 + 4 * g + (j - U) else c j) (fun j => if j = D then g else f j) (fun j => if j = D then stt P g else n j) (fun j => if j = D then U else r j) := by
  obtain ⟨h1, h2, h3, h4, h5, h6, h7, h8⟩ := WF_tk h (k := 4) (c0 := 4 + 4 * g) (by omega) (by omega) (Or.inl (by omega))
  have hs := stt_succ P hg.1 hg.2
  have hz := okZ_at hz hg.1 hg.2
  have h3' := h.2.2.1
  refine ⟨by omega, h2, h3, h4, h5, h6, fun i i0 i1 => ?_, fun i i0 i1 => ?_⟩
  · show (0 ≤ (if i = D then g else f i) ∧ (if i = D then g else f i) ≤ 3) ∧ ((stt P (if i = D then g else f i) ≤ (if i = D then stt P g else n i) ∧ (if i = D then stt P g else n i) ≤ stt P ((if i = D then g else f i) + 1)) ∧ (5 ≤ (if i = D then U else r i) ∧ (if i = D then U else r i) + 3 < U + 4))
    by_cases q : i = D
    · simp only [if_pos q]; refine ⟨hg, ⟨by omega, by omega⟩, by omega, by omega⟩
    · simp only [if_neg q]; exact h7 i i0 (by omega)
  · show stt P (if i = D then g else f i) < (if i = D then stt P g else n i)
    rw [if_neg (by omega), if_neg (by omega)]
    by_cases q : i + 1 < D
    · exact h8 i i0 q
    · have e : i = D - 1 := by omega
      rw [e]; exact hn (by omega)
theorem WF_pop {P : Pg} {D U X fa ob : Int} {m c f n r : Int → Int} (h : WFf P D U X fa ob m c f n r) (hD : 0 < D) : WFf P (D - 1) U X fa ob m c f n r := by
  obtain ⟨h1, h2, h3, h4, h5, h6, h7, h8⟩ := h
  exact ⟨by omega, h2, h3, h4, h5, h6, fun i i0 i1 => h7 i i0 (by omega), fun i i0 i1 => h8 i i0 (by omega)⟩
theorem W_wr {P : Pg} {s : St} {a p : Int} (h : WFM P s) (hp : 0 ≤ p ∧ p < gI s 46 7) : WFM P (mwr a p s) := by
  unfold WFM at *
  rw [mwr_47, mwr_ne (by decide), mwr_ne (by decide), mwr_ne (by decide), mwr_ne (by decide), mwr_ne (by decide)]
  exact WF_mem h hp
theorem W_fl {P : Pg} {s : St} (h : WFM P s) (hf : gI s 46 9 + 1 ≤ gI s 46 8) : WFM P (mfl s) := by
  have h9 := h.2.2.2.1.1
  exact WF_fa (fa' := gI s 46 9 + 1) h ⟨by omega, hf⟩
theorem W_X {P : Pg} {s : St} (h : WFM P s) (hx : gI s 46 8 < 200) : WFM P (sI s 46 8 (gI s 46 8 + 1)) :=
  WF_X (X' := gI s 46 8 + 1) h ⟨by omega, by omega⟩
theorem W_op {P : Pg} (hz : okZ P) {s : St} {g : Int} (h : WFM P s) (hD : gI s 46 6 < 6) (hg : 0 ≤ g ∧ g ≤ 3) (hn : 0 < gI s 46 6 → stt P (gI s 50 (gI s 46 6 - 1)) < gI s 51 (gI s 46 6 - 1)) (hu : gI s 46 7 + 4 ≤ 9 + 4 * gI s 46 8) : WFM P (mop P g s) := by
  have := WF_push hz h hD hg hn hu
  unfold WFM
  rw [mop_46, mop_46, mop_46, mop_46, mop_46, mop_47, mop_48, mop_50, mop_51, mop_52]
  exact this
theorem W_tk {P : Pg} {s : St} {k c0 : Int} (h : WFM P s) (hk : 0 ≤ k ∧ gI s 46 7 + k ≤ 9 + 4 * gI s 46 8) (hc : 0 ≤ c0 ∧ c0 + k ≤ 44) (h20 : c0 + k ≤ 20 ∨ (k = 3 ∧ 20 ≤ c0 ∧ (c0 - 20) % 3 = 0)) : WFM P (mtk c0 k s) := by
  have := WF_tk h hk hc h20
  unfold WFM
  rw [mtk_46, mtk_46, mtk_46, mtk_46, mtk_46, mtk_47, mtk_48, mtk_ne (by decide) (by decide) (by decide), mtk_ne (by decide) (by decide) (by decide), mtk_ne (by decide) (by decide) (by decide)]
  exact this
theorem madr_rng {P : Pg} {s : St} (h : WFM P s) {v : Int} (hD : 0 < gI s 46 6) (hv : 0 ≤ v) : 1 ≤ madr v s ∧ madr v s < gI s 46 7 := by
  have h3 := h.2.2.1
  unfold madr
  by_cases q : v < 4
  · rw [if_pos q]; omega
  · rw [if_neg q]
    have := (h.2.2.2.2.2.2.1 (gI s 46 6 - 1) (by omega) (by omega)).2.2
    omega
theorem madr_46 {s : St} {v j x : Int} (hj : j ≠ 6) : madr v (sI s 46 j x) = madr v s := by
  unfold madr
  rw [gI_rne (show (52 : Nat) ≠ 46 by decide), show gI (sI s 46 j x) 46 6 = gI s 46 6 from by rw [gI_sI, if_neg (fun k => hj k.2.symm)]]
theorem mtk_U {s : St} {c n : Int} : gI (mtk c n s) 46 7 = gI s 46 7 + n := by rw [mtk_46, if_pos rfl]
/-- an executed statement keeps it -/
theorem W_ex1 {P : Pg} (hP : okP P) {s : St} {n l r : Int} (h : WFM P s) (n0 : 0 ≤ n) (n1 : n < tot P) (hD : 0 < gI s 46 6) (hl : 1 ≤ l ∧ l < gI s 46 7) (hr : 1 ≤ r ∧ r < gI s 46 7) (hX : 1 ≤ gI s 46 8) (hfa : gI s 46 9 + 1 ≤ gI s 46 8) (hob : gI s 46 10 + 1 ≤ gI s 46 8) (hu : gI s 46 7 + 4 ≤ 9 + 4 * gI s 46 8)
    (hn : stt P (gI s 50 (gI s 46 6 - 1)) < gI s 51 (gI s 46 6 - 1)) : WFM P (mex1 P n l r s) := by
  obtain ⟨hk, ⟨hv, hw, hnn⟩, h5⟩ := hP.2.1 n n0 n1
  have hm := h.2.2.2.2.1
  have hob0 := h.2.2.2.1.2
  have mr := (hm r hr.1 hr.2).1
  have ml := (hm l hl.1 hl.2).1
  unfold mex1
  by_cases e0 : kd P n = 0
  · rw [if_pos e0]; exact W_wr h (by omega)
  rw [if_neg e0]
  by_cases e1 : kd P n = 1
  · rw [if_pos e1]; exact W_wr h mr
  rw [if_neg e1]
  by_cases e2 : kd P n = 2
  · rw [if_pos e2]
    by_cases q : gI s 47 r = 0
    · rw [if_pos q]; exact W_fl h hfa
    · rw [if_neg q]; exact W_wr h (hm _ (by omega) mr.2).1
  rw [if_neg e2]
  by_cases e3 : kd P n = 3
  · rw [if_pos e3]
    by_cases q : gI s 47 l = 0
    · rw [if_pos q]; exact W_fl h hfa
    · rw [if_neg q]; exact W_wr h mr
  rw [if_neg e3]
  by_cases e4 : kd P n = 4
  · rw [if_pos e4]
    have hs := sn_lt hP n0 n1 e4
    have h1 : WFM P (sI s 46 10 (gI s 46 10 + 1)) := WF_ob (ob' := gI s 46 10 + 1) h ⟨by omega, hob⟩
    have h2 := W_tk (k := 3) (c0 := 20 + 3 * sn P n + 0) h1 (by refine ⟨by omega, ?_⟩; show gI s 46 7 + 3 ≤ 9 + 4 * gI s 46 8; omega) (by omega) (Or.inr ⟨rfl, by omega, by omega⟩)
    refine W_wr h2 ?_
    rw [mtk_U]
    show 0 ≤ gI s 46 7 ∧ gI s 46 7 < gI s 46 7 + 3
    omega
  rw [if_neg e4]
  by_cases e5 : kd P n = 5
  · rw [if_pos e5]
    by_cases q : gI s 47 r = 0 ∨ nn P n = 0
    · rw [if_pos q]; exact W_wr h mr
    · rw [if_neg q]
      by_cases q2 : gI s 48 (gI s 47 r) - 20 < 0 ∨ ¬ ((gI s 48 (gI s 47 r) - 20) % 3 + nn P n < 3)
      · rw [if_pos q2]; exact W_fl h hfa
      · rw [if_neg q2]
        have := (h.2.2.2.2.2.1 (gI s 47 r) (nn P n) (by omega) mr.2 (by omega) hnn.1 (by omega)).1
        exact W_wr h (by omega)
  rw [if_neg e5]
  by_cases q : gI s 46 6 < 6 ∧ gI s 46 8 < 200
  · rw [if_pos q]
    have h2 := W_op hP.1 (g := nn P n) h q.1 hnn (fun _ => hn) hu
    refine W_wr h2 ?_
    rw [mop_46, if_neg (by decide), if_pos rfl]
    omega
  · rw [if_neg q]; exact h
theorem W_st {P : Pg} (hP : okP P) {s : St} (h : WFM P s) (hg : mgo s) : WFM P (mst P s) := by
  have hD := hg.1
  have hX := hg.2
  have hs := h.2.2.2.2.2.2.1 (gI s 46 6 - 1) (by omega) (by omega)
  have h2 := h.2.1
  have h4 := h.2.2.2.1
  have h3 := h.2.2.1
  unfold mst
  by_cases q : gI s 51 (gI s 46 6 - 1) < stt P (gI s 50 (gI s 46 6 - 1) + 1)
  · rw [if_pos q]
    have hst := stt_rng hP.1 hs.1.1 hs.1.2
    have hss := stt_succ P hs.1.1 hs.1.2
    have w1 : WFM P (sI s 51 (gI s 46 6 - 1) (gI s 51 (gI s 46 6 - 1) + 1)) := by
      have := WF_nx h (i := gI s 46 6 - 1) (v := gI s 51 (gI s 46 6 - 1) + 1) rfl (by omega)
      unfold WFM
      rw [gI_row, gI_rne (by decide), gI_rne (by decide), gI_rne (by decide), gI_rne (by decide), gI_rne (by decide)]
      exact this
    have w2 := W_X w1 hX
    unfold mex
    refine W_ex1 hP w2 (by omega) (by omega) hD ?_ ?_ ?_ ?_ ?_ ?_ ?_
    · exact madr_rng w1 hD (hP.2.1 _ (by omega) (by omega)).2.1.1.1
    · exact madr_rng w1 hD (hP.2.1 _ (by omega) (by omega)).2.1.2.1.1
    · show 1 ≤ gI s 46 8 + 1; omega
    · show gI s 46 9 + 1 ≤ gI s 46 8 + 1; omega
    · show gI s 46 10 + 1 ≤ gI s 46 8 + 1; omega
    · show gI s 46 7 + 4 ≤ 9 + 4 * (gI s 46 8 + 1); omega
    · show stt P (gI s 50 (gI s 46 6 - 1)) < gI (sI s 51 (gI s 46 6 - 1) (gI s 51 (gI s 46 6 - 1) + 1)) 51 (gI s 46 6 - 1)
      rw [gI_sI, if_pos ⟨rfl, rfl⟩]; omega
  · rw [if_neg q]
    have w1 : WFM P (sI s 46 6 (gI s 46 6 - 1)) := WF_pop h hD
    have hm := h.2.2.2.2.1
    have ha := madr_rng h hD (v := 4 + 4 * gI s 50 (gI s 46 6 - 1) + 1) (by omega)
    unfold mcl
    by_cases q2 : 0 < gI s 46 6 - 1
    · rw [if_pos q2]; exact W_wr w1 (hm _ ha.1 ha.2).1
    · rw [if_neg q2]; exact w1

