/-! the outer walk: comparisons (printed by gen_j.py) -/
section JR
variable {Γ : JG} {μ : MD} {pc : Nat} {L : Lo} {st : List AV} {w : va_W} {t : Nat} {Q : JQ}
theorem j_icmp_eq_t {a b off : Int} {tgt : Nat} (d : decode μ.2.1 pc = .ok (.if_icmp .eq off, 3)) (ht : (pc : Int) + off = (tgt : Int)) (ha : inR a) (hb9 : inR b) (hq : a = b) (k : J Γ μ tgt L st w t Q) : J Γ μ pc L (vI b :: vI a :: st) w t Q := by
  intro p e R s m args below meth c H locs cells slots ls Qs B E hc hs hl hP hD hS
  have hx := B.1
  have hb := B.2.1
  have e1 := n_eq ha hb9
  have e2 := n_lt ha hb9
  have e3 := n_lt hb9 ha
  have e4 := n_le ha hb9
  have e5 := n_le hb9 ha
  refine lv_icmp_eq hx hb d ht (fun _ => k p e R s m args below meth c H locs cells slots ls Qs B E hc hs hl hP hD hS) (fun hr => ?_)
  exfalso; simp only [gt_iff_lt, ge_iff_le, ne_eq, e1, e2, e3, e4, e5] at hr; omega
theorem j_icmp_eq_f {a b off : Int} {tgt : Nat} (d : decode μ.2.1 pc = .ok (.if_icmp .eq off, 3)) (ht : (pc : Int) + off = (tgt : Int)) (ha : inR a) (hb9 : inR b) (hq : ¬ (a = b)) (k : J Γ μ (pc + 3) L st w t Q) : J Γ μ pc L (vI b :: vI a :: st) w t Q := by
  intro p e R s m args below meth c H locs cells slots ls Qs B E hc hs hl hP hD hS
  have hx := B.1
  have hb := B.2.1
  have e1 := n_eq ha hb9
  have e2 := n_lt ha hb9
  have e3 := n_lt hb9 ha
  have e4 := n_le ha hb9
  have e5 := n_le hb9 ha
  refine lv_icmp_eq hx hb d ht (fun hr => ?_) (fun _ => k p e R s m args below meth c H locs cells slots ls Qs B E hc hs hl hP hD hS)
  exfalso; simp only [gt_iff_lt, ge_iff_le, ne_eq, e1, e2, e3, e4, e5] at hr; omega
theorem j_icmp_ne_t {a b off : Int} {tgt : Nat} (d : decode μ.2.1 pc = .ok (.if_icmp .ne off, 3)) (ht : (pc : Int) + off = (tgt : Int)) (ha : inR a) (hb9 : inR b) (hq : ¬ a = b) (k : J Γ μ tgt L st w t Q) : J Γ μ pc L (vI b :: vI a :: st) w t Q := by
  intro p e R s m args below meth c H locs cells slots ls Qs B E hc hs hl hP hD hS
  have hx := B.1
  have hb := B.2.1
  have e1 := n_eq ha hb9
  have e2 := n_lt ha hb9
  have e3 := n_lt hb9 ha
  have e4 := n_le ha hb9
  have e5 := n_le hb9 ha
  refine lv_icmp_ne hx hb d ht (fun _ => k p e R s m args below meth c H locs cells slots ls Qs B E hc hs hl hP hD hS) (fun hr => ?_)
  exfalso; simp only [gt_iff_lt, ge_iff_le, ne_eq, e1, e2, e3, e4, e5] at hr; omega
theorem j_icmp_ne_f {a b off : Int} {tgt : Nat} (d : decode μ.2.1 pc = .ok (.if_icmp .ne off, 3)) (ht : (pc : Int) + off = (tgt : Int)) (ha : inR a) (hb9 : inR b) (hq : ¬ (¬ a = b)) (k : J Γ μ (pc + 3) L st w t Q) : J Γ μ pc L (vI b :: vI a :: st) w t Q := by
  intro p e R s m args below meth c H locs cells slots ls Qs B E hc hs hl hP hD hS
  have hx := B.1
  have hb := B.2.1
  have e1 := n_eq ha hb9
  have e2 := n_lt ha hb9
  have e3 := n_lt hb9 ha
  have e4 := n_le ha hb9
  have e5 := n_le hb9 ha
  refine lv_icmp_ne hx hb d ht (fun hr => ?_) (fun _ => k p e R s m args below meth c H locs cells slots ls Qs B E hc hs hl hP hD hS)
  exfalso; simp only [gt_iff_lt, ge_iff_le, ne_eq, e1, e2, e3, e4, e5] at hr; omega
theorem j_icmp_lt_t {a b off : Int} {tgt : Nat} (d : decode μ.2.1 pc = .ok (.if_icmp .lt off, 3)) (ht : (pc : Int) + off = (tgt : Int)) (ha : inR a) (hb9 : inR b) (hq : a < b) (k : J Γ μ tgt L st w t Q) : J Γ μ pc L (vI b :: vI a :: st) w t Q := by
  intro p e R s m args below meth c H locs cells slots ls Qs B E hc hs hl hP hD hS
  have hx := B.1
  have hb := B.2.1
  have e1 := n_eq ha hb9
  have e2 := n_lt ha hb9
  have e3 := n_lt hb9 ha
  have e4 := n_le ha hb9
  have e5 := n_le hb9 ha
  refine lv_icmp_lt hx hb d ht (fun _ => k p e R s m args below meth c H locs cells slots ls Qs B E hc hs hl hP hD hS) (fun hr => ?_)
  exfalso; simp only [gt_iff_lt, ge_iff_le, ne_eq, e1, e2, e3, e4, e5] at hr; omega
theorem j_icmp_lt_f {a b off : Int} {tgt : Nat} (d : decode μ.2.1 pc = .ok (.if_icmp .lt off, 3)) (ht : (pc : Int) + off = (tgt : Int)) (ha : inR a) (hb9 : inR b) (hq : ¬ (a < b)) (k : J Γ μ (pc + 3) L st w t Q) : J Γ μ pc L (vI b :: vI a :: st) w t Q := by
  intro p e R s m args below meth c H locs cells slots ls Qs B E hc hs hl hP hD hS
  have hx := B.1
  have hb := B.2.1
  have e1 := n_eq ha hb9
  have e2 := n_lt ha hb9
  have e3 := n_lt hb9 ha
  have e4 := n_le ha hb9
  have e5 := n_le hb9 ha
  refine lv_icmp_lt hx hb d ht (fun hr => ?_) (fun _ => k p e R s m args below meth c H locs cells slots ls Qs B E hc hs hl hP hD hS)
  exfalso; simp only [gt_iff_lt, ge_iff_le, ne_eq, e1, e2, e3, e4, e5] at hr; omega
theorem j_icmp_ge_t {a b off : Int} {tgt : Nat} (d : decode μ.2.1 pc = .ok (.if_icmp .ge off, 3)) (ht : (pc : Int) + off = (tgt : Int)) (ha : inR a) (hb9 : inR b) (hq : b ≤ a) (k : J Γ μ tgt L st w t Q) : J Γ μ pc L (vI b :: vI a :: st) w t Q := by
  intro p e R s m args below meth c H locs cells slots ls Qs B E hc hs hl hP hD hS
  have hx := B.1
  have hb := B.2.1
  have e1 := n_eq ha hb9
  have e2 := n_lt ha hb9
  have e3 := n_lt hb9 ha
  have e4 := n_le ha hb9
  have e5 := n_le hb9 ha
  refine lv_icmp_ge hx hb d ht (fun _ => k p e R s m args below meth c H locs cells slots ls Qs B E hc hs hl hP hD hS) (fun hr => ?_)
  exfalso; simp only [gt_iff_lt, ge_iff_le, ne_eq, e1, e2, e3, e4, e5] at hr; omega
theorem j_icmp_ge_f {a b off : Int} {tgt : Nat} (d : decode μ.2.1 pc = .ok (.if_icmp .ge off, 3)) (ht : (pc : Int) + off = (tgt : Int)) (ha : inR a) (hb9 : inR b) (hq : ¬ (b ≤ a)) (k : J Γ μ (pc + 3) L st w t Q) : J Γ μ pc L (vI b :: vI a :: st) w t Q := by
  intro p e R s m args below meth c H locs cells slots ls Qs B E hc hs hl hP hD hS
  have hx := B.1
  have hb := B.2.1
  have e1 := n_eq ha hb9
  have e2 := n_lt ha hb9
  have e3 := n_lt hb9 ha
  have e4 := n_le ha hb9
  have e5 := n_le hb9 ha
  refine lv_icmp_ge hx hb d ht (fun hr => ?_) (fun _ => k p e R s m args below meth c H locs cells slots ls Qs B E hc hs hl hP hD hS)
  exfalso; simp only [gt_iff_lt, ge_iff_le, ne_eq, e1, e2, e3, e4, e5] at hr; omega
theorem j_icmp_gt_t {a b off : Int} {tgt : Nat} (d : decode μ.2.1 pc = .ok (.if_icmp .gt off, 3)) (ht : (pc : Int) + off = (tgt : Int)) (ha : inR a) (hb9 : inR b) (hq : b < a) (k : J Γ μ tgt L st w t Q) : J Γ μ pc L (vI b :: vI a :: st) w t Q := by
  intro p e R s m args below meth c H locs cells slots ls Qs B E hc hs hl hP hD hS
  have hx := B.1
  have hb := B.2.1
  have e1 := n_eq ha hb9
  have e2 := n_lt ha hb9
  have e3 := n_lt hb9 ha
  have e4 := n_le ha hb9
  have e5 := n_le hb9 ha
  refine lv_icmp_gt hx hb d ht (fun _ => k p e R s m args below meth c H locs cells slots ls Qs B E hc hs hl hP hD hS) (fun hr => ?_)
  exfalso; simp only [gt_iff_lt, ge_iff_le, ne_eq, e1, e2, e3, e4, e5] at hr; omega
theorem j_icmp_gt_f {a b off : Int} {tgt : Nat} (d : decode μ.2.1 pc = .ok (.if_icmp .gt off, 3)) (ht : (pc : Int) + off = (tgt : Int)) (ha : inR a) (hb9 : inR b) (hq : ¬ (b < a)) (k : J Γ μ (pc + 3) L st w t Q) : J Γ μ pc L (vI b :: vI a :: st) w t Q := by
  intro p e R s m args below meth c H locs cells slots ls Qs B E hc hs hl hP hD hS
  have hx := B.1
  have hb := B.2.1
  have e1 := n_eq ha hb9
  have e2 := n_lt ha hb9
  have e3 := n_lt hb9 ha
  have e4 := n_le ha hb9
  have e5 := n_le hb9 ha
  refine lv_icmp_gt hx hb d ht (fun hr => ?_) (fun _ => k p e R s m args below meth c H locs cells slots ls Qs B E hc hs hl hP hD hS)
  exfalso; simp only [gt_iff_lt, ge_iff_le, ne_eq, e1, e2, e3, e4, e5] at hr; omega
theorem j_icmp_le_t {a b off : Int} {tgt : Nat} (d : decode μ.2.1 pc = .ok (.if_icmp .le off, 3)) (ht : (pc : Int) + off = (tgt : Int)) (ha : inR a) (hb9 : inR b) (hq : a ≤ b) (k : J Γ μ tgt L st w t Q) : J Γ μ pc L (vI b :: vI a :: st) w t Q := by
  intro p e R s m args below meth c H locs cells slots ls Qs B E hc hs hl hP hD hS
  have hx := B.1
  have hb := B.2.1
  have e1 := n_eq ha hb9
  have e2 := n_lt ha hb9
  have e3 := n_lt hb9 ha
  have e4 := n_le ha hb9
  have e5 := n_le hb9 ha
  refine lv_icmp_le hx hb d ht (fun _ => k p e R s m args below meth c H locs cells slots ls Qs B E hc hs hl hP hD hS) (fun hr => ?_)
  exfalso; simp only [gt_iff_lt, ge_iff_le, ne_eq, e1, e2, e3, e4, e5] at hr; omega
theorem j_icmp_le_f {a b off : Int} {tgt : Nat} (d : decode μ.2.1 pc = .ok (.if_icmp .le off, 3)) (ht : (pc : Int) + off = (tgt : Int)) (ha : inR a) (hb9 : inR b) (hq : ¬ (a ≤ b)) (k : J Γ μ (pc + 3) L st w t Q) : J Γ μ pc L (vI b :: vI a :: st) w t Q := by
  intro p e R s m args below meth c H locs cells slots ls Qs B E hc hs hl hP hD hS
  have hx := B.1
  have hb := B.2.1
  have e1 := n_eq ha hb9
  have e2 := n_lt ha hb9
  have e3 := n_lt hb9 ha
  have e4 := n_le ha hb9
  have e5 := n_le hb9 ha
  refine lv_icmp_le hx hb d ht (fun hr => ?_) (fun _ => k p e R s m args below meth c H locs cells slots ls Qs B E hc hs hl hP hD hS)
  exfalso; simp only [gt_iff_lt, ge_iff_le, ne_eq, e1, e2, e3, e4, e5] at hr; omega
theorem j_if_eq_t {a off : Int} {tgt : Nat} (d : decode μ.2.1 pc = .ok (.ifCond .eq off, 3)) (ht : (pc : Int) + off = (tgt : Int)) (ha : inR a) (hq : a = 0) (k : J Γ μ tgt L st w t Q) : J Γ μ pc L (vI a :: st) w t Q := by
  intro p e R s m args below meth c H locs cells slots ls Qs B E hc hs hl hP hD hS
  have hx := B.1
  have hb := B.2.1
  have hz : inR 0 := by decide
  have e1 : Int32.ofInt a = 0 ↔ a = 0 := n_eq ha hz
  have e2 : Int32.ofInt a < 0 ↔ a < 0 := n_lt ha hz
  have e3 : 0 < Int32.ofInt a ↔ 0 < a := n_lt hz ha
  have e4 : Int32.ofInt a ≤ 0 ↔ a ≤ 0 := n_le ha hz
  have e5 : 0 ≤ Int32.ofInt a ↔ 0 ≤ a := n_le hz ha
  refine lv_if_eq hx hb d ht (fun _ => k p e R s m args below meth c H locs cells slots ls Qs B E hc hs hl hP hD hS) (fun hr => ?_)
  exfalso; simp only [gt_iff_lt, ge_iff_le, ne_eq, e1, e2, e3, e4, e5] at hr; omega
theorem j_if_eq_f {a off : Int} {tgt : Nat} (d : decode μ.2.1 pc = .ok (.ifCond .eq off, 3)) (ht : (pc : Int) + off = (tgt : Int)) (ha : inR a) (hq : ¬ (a = 0)) (k : J Γ μ (pc + 3) L st w t Q) : J Γ μ pc L (vI a :: st) w t Q := by
  intro p e R s m args below meth c H locs cells slots ls Qs B E hc hs hl hP hD hS
  have hx := B.1
  have hb := B.2.1
  have hz : inR 0 := by decide
  have e1 : Int32.ofInt a = 0 ↔ a = 0 := n_eq ha hz
  have e2 : Int32.ofInt a < 0 ↔ a < 0 := n_lt ha hz
  have e3 : 0 < Int32.ofInt a ↔ 0 < a := n_lt hz ha
  have e4 : Int32.ofInt a ≤ 0 ↔ a ≤ 0 := n_le ha hz
  have e5 : 0 ≤ Int32.ofInt a ↔ 0 ≤ a := n_le hz ha
  refine lv_if_eq hx hb d ht (fun hr => ?_) (fun _ => k p e R s m args below meth c H locs cells slots ls Qs B E hc hs hl hP hD hS)
  exfalso; simp only [gt_iff_lt, ge_iff_le, ne_eq, e1, e2, e3, e4, e5] at hr; omega
theorem j_if_ne_t {a off : Int} {tgt : Nat} (d : decode μ.2.1 pc = .ok (.ifCond .ne off, 3)) (ht : (pc : Int) + off = (tgt : Int)) (ha : inR a) (hq : ¬ a = 0) (k : J Γ μ tgt L st w t Q) : J Γ μ pc L (vI a :: st) w t Q := by
  intro p e R s m args below meth c H locs cells slots ls Qs B E hc hs hl hP hD hS
  have hx := B.1
  have hb := B.2.1
  have hz : inR 0 := by decide
  have e1 : Int32.ofInt a = 0 ↔ a = 0 := n_eq ha hz
  have e2 : Int32.ofInt a < 0 ↔ a < 0 := n_lt ha hz
  have e3 : 0 < Int32.ofInt a ↔ 0 < a := n_lt hz ha
  have e4 : Int32.ofInt a ≤ 0 ↔ a ≤ 0 := n_le ha hz
  have e5 : 0 ≤ Int32.ofInt a ↔ 0 ≤ a := n_le hz ha
  refine lv_if_ne hx hb d ht (fun _ => k p e R s m args below meth c H locs cells slots ls Qs B E hc hs hl hP hD hS) (fun hr => ?_)
  exfalso; simp only [gt_iff_lt, ge_iff_le, ne_eq, e1, e2, e3, e4, e5] at hr; omega
theorem j_if_ne_f {a off : Int} {tgt : Nat} (d : decode μ.2.1 pc = .ok (.ifCond .ne off, 3)) (ht : (pc : Int) + off = (tgt : Int)) (ha : inR a) (hq : ¬ (¬ a = 0)) (k : J Γ μ (pc + 3) L st w t Q) : J Γ μ pc L (vI a :: st) w t Q := by
  intro p e R s m args below meth c H locs cells slots ls Qs B E hc hs hl hP hD hS
  have hx := B.1
  have hb := B.2.1
  have hz : inR 0 := by decide
  have e1 : Int32.ofInt a = 0 ↔ a = 0 := n_eq ha hz
  have e2 : Int32.ofInt a < 0 ↔ a < 0 := n_lt ha hz
  have e3 : 0 < Int32.ofInt a ↔ 0 < a := n_lt hz ha
  have e4 : Int32.ofInt a ≤ 0 ↔ a ≤ 0 := n_le ha hz
  have e5 : 0 ≤ Int32.ofInt a ↔ 0 ≤ a := n_le hz ha
  refine lv_if_ne hx hb d ht (fun hr => ?_) (fun _ => k p e R s m args below meth c H locs cells slots ls Qs B E hc hs hl hP hD hS)
  exfalso; simp only [gt_iff_lt, ge_iff_le, ne_eq, e1, e2, e3, e4, e5] at hr; omega
theorem j_if_lt_t {a off : Int} {tgt : Nat} (d : decode μ.2.1 pc = .ok (.ifCond .lt off, 3)) (ht : (pc : Int) + off = (tgt : Int)) (ha : inR a) (hq : a < 0) (k : J Γ μ tgt L st w t Q) : J Γ μ pc L (vI a :: st) w t Q := by
  intro p e R s m args below meth c H locs cells slots ls Qs B E hc hs hl hP hD hS
  have hx := B.1
  have hb := B.2.1
  have hz : inR 0 := by decide
  have e1 : Int32.ofInt a = 0 ↔ a = 0 := n_eq ha hz
  have e2 : Int32.ofInt a < 0 ↔ a < 0 := n_lt ha hz
  have e3 : 0 < Int32.ofInt a ↔ 0 < a := n_lt hz ha
  have e4 : Int32.ofInt a ≤ 0 ↔ a ≤ 0 := n_le ha hz
  have e5 : 0 ≤ Int32.ofInt a ↔ 0 ≤ a := n_le hz ha
  refine lv_if_lt hx hb d ht (fun _ => k p e R s m args below meth c H locs cells slots ls Qs B E hc hs hl hP hD hS) (fun hr => ?_)
  exfalso; simp only [gt_iff_lt, ge_iff_le, ne_eq, e1, e2, e3, e4, e5] at hr; omega
theorem j_if_lt_f {a off : Int} {tgt : Nat} (d : decode μ.2.1 pc = .ok (.ifCond .lt off, 3)) (ht : (pc : Int) + off = (tgt : Int)) (ha : inR a) (hq : ¬ (a < 0)) (k : J Γ μ (pc + 3) L st w t Q) : J Γ μ pc L (vI a :: st) w t Q := by
  intro p e R s m args below meth c H locs cells slots ls Qs B E hc hs hl hP hD hS
  have hx := B.1
  have hb := B.2.1
  have hz : inR 0 := by decide
  have e1 : Int32.ofInt a = 0 ↔ a = 0 := n_eq ha hz
  have e2 : Int32.ofInt a < 0 ↔ a < 0 := n_lt ha hz
  have e3 : 0 < Int32.ofInt a ↔ 0 < a := n_lt hz ha
  have e4 : Int32.ofInt a ≤ 0 ↔ a ≤ 0 := n_le ha hz
  have e5 : 0 ≤ Int32.ofInt a ↔ 0 ≤ a := n_le hz ha
  refine lv_if_lt hx hb d ht (fun hr => ?_) (fun _ => k p e R s m args below meth c H locs cells slots ls Qs B E hc hs hl hP hD hS)
  exfalso; simp only [gt_iff_lt, ge_iff_le, ne_eq, e1, e2, e3, e4, e5] at hr; omega
theorem j_if_ge_t {a off : Int} {tgt : Nat} (d : decode μ.2.1 pc = .ok (.ifCond .ge off, 3)) (ht : (pc : Int) + off = (tgt : Int)) (ha : inR a) (hq : 0 ≤ a) (k : J Γ μ tgt L st w t Q) : J Γ μ pc L (vI a :: st) w t Q := by
  intro p e R s m args below meth c H locs cells slots ls Qs B E hc hs hl hP hD hS
  have hx := B.1
  have hb := B.2.1
  have hz : inR 0 := by decide
  have e1 : Int32.ofInt a = 0 ↔ a = 0 := n_eq ha hz
  have e2 : Int32.ofInt a < 0 ↔ a < 0 := n_lt ha hz
  have e3 : 0 < Int32.ofInt a ↔ 0 < a := n_lt hz ha
  have e4 : Int32.ofInt a ≤ 0 ↔ a ≤ 0 := n_le ha hz
  have e5 : 0 ≤ Int32.ofInt a ↔ 0 ≤ a := n_le hz ha
  refine lv_if_ge hx hb d ht (fun _ => k p e R s m args below meth c H locs cells slots ls Qs B E hc hs hl hP hD hS) (fun hr => ?_)
  exfalso; simp only [gt_iff_lt, ge_iff_le, ne_eq, e1, e2, e3, e4, e5] at hr; omega
theorem j_if_ge_f {a off : Int} {tgt : Nat} (d : decode μ.2.1 pc = .ok (.ifCond .ge off, 3)) (ht : (pc : Int) + off = (tgt : Int)) (ha : inR a) (hq : ¬ (0 ≤ a)) (k : J Γ μ (pc + 3) L st w t Q) : J Γ μ pc L (vI a :: st) w t Q := by
  intro p e R s m args below meth c H locs cells slots ls Qs B E hc hs hl hP hD hS
  have hx := B.1
  have hb := B.2.1
  have hz : inR 0 := by decide
  have e1 : Int32.ofInt a = 0 ↔ a = 0 := n_eq ha hz
  have e2 : Int32.ofInt a < 0 ↔ a < 0 := n_lt ha hz
  have e3 : 0 < Int32.ofInt a ↔ 0 < a := n_lt hz ha
  have e4 : Int32.ofInt a ≤ 0 ↔ a ≤ 0 := n_le ha hz
  have e5 : 0 ≤ Int32.ofInt a ↔ 0 ≤ a := n_le hz ha
  refine lv_if_ge hx hb d ht (fun hr => ?_) (fun _ => k p e R s m args below meth c H locs cells slots ls Qs B E hc hs hl hP hD hS)
  exfalso; simp only [gt_iff_lt, ge_iff_le, ne_eq, e1, e2, e3, e4, e5] at hr; omega
theorem j_if_gt_t {a off : Int} {tgt : Nat} (d : decode μ.2.1 pc = .ok (.ifCond .gt off, 3)) (ht : (pc : Int) + off = (tgt : Int)) (ha : inR a) (hq : 0 < a) (k : J Γ μ tgt L st w t Q) : J Γ μ pc L (vI a :: st) w t Q := by
  intro p e R s m args below meth c H locs cells slots ls Qs B E hc hs hl hP hD hS
  have hx := B.1
  have hb := B.2.1
  have hz : inR 0 := by decide
  have e1 : Int32.ofInt a = 0 ↔ a = 0 := n_eq ha hz
  have e2 : Int32.ofInt a < 0 ↔ a < 0 := n_lt ha hz
  have e3 : 0 < Int32.ofInt a ↔ 0 < a := n_lt hz ha
  have e4 : Int32.ofInt a ≤ 0 ↔ a ≤ 0 := n_le ha hz
  have e5 : 0 ≤ Int32.ofInt a ↔ 0 ≤ a := n_le hz ha
  refine lv_if_gt hx hb d ht (fun _ => k p e R s m args below meth c H locs cells slots ls Qs B E hc hs hl hP hD hS) (fun hr => ?_)
  exfalso; simp only [gt_iff_lt, ge_iff_le, ne_eq, e1, e2, e3, e4, e5] at hr; omega
theorem j_if_gt_f {a off : Int} {tgt : Nat} (d : decode μ.2.1 pc = .ok (.ifCond .gt off, 3)) (ht : (pc : Int) + off = (tgt : Int)) (ha : inR a) (hq : ¬ (0 < a)) (k : J Γ μ (pc + 3) L st w t Q) : J Γ μ pc L (vI a :: st) w t Q := by
  intro p e R s m args below meth c H locs cells slots ls Qs B E hc hs hl hP hD hS
  have hx := B.1
  have hb := B.2.1
  have hz : inR 0 := by decide
  have e1 : Int32.ofInt a = 0 ↔ a = 0 := n_eq ha hz
  have e2 : Int32.ofInt a < 0 ↔ a < 0 := n_lt ha hz
  have e3 : 0 < Int32.ofInt a ↔ 0 < a := n_lt hz ha
  have e4 : Int32.ofInt a ≤ 0 ↔ a ≤ 0 := n_le ha hz
  have e5 : 0 ≤ Int32.ofInt a ↔ 0 ≤ a := n_le hz ha
  refine lv_if_gt hx hb d ht (fun hr => ?_) (fun _ => k p e R s m args below meth c H locs cells slots ls Qs B E hc hs hl hP hD hS)
  exfalso; simp only [gt_iff_lt, ge_iff_le, ne_eq, e1, e2, e3, e4, e5] at hr; omega
theorem j_if_le_t {a off : Int} {tgt : Nat} (d : decode μ.2.1 pc = .ok (.ifCond .le off, 3)) (ht : (pc : Int) + off = (tgt : Int)) (ha : inR a) (hq : a ≤ 0) (k : J Γ μ tgt L st w t Q) : J Γ μ pc L (vI a :: st) w t Q := by
  intro p e R s m args below meth c H locs cells slots ls Qs B E hc hs hl hP hD hS
  have hx := B.1
  have hb := B.2.1
  have hz : inR 0 := by decide
  have e1 : Int32.ofInt a = 0 ↔ a = 0 := n_eq ha hz
  have e2 : Int32.ofInt a < 0 ↔ a < 0 := n_lt ha hz
  have e3 : 0 < Int32.ofInt a ↔ 0 < a := n_lt hz ha
  have e4 : Int32.ofInt a ≤ 0 ↔ a ≤ 0 := n_le ha hz
  have e5 : 0 ≤ Int32.ofInt a ↔ 0 ≤ a := n_le hz ha
  refine lv_if_le hx hb d ht (fun _ => k p e R s m args below meth c H locs cells slots ls Qs B E hc hs hl hP hD hS) (fun hr => ?_)
  exfalso; simp only [gt_iff_lt, ge_iff_le, ne_eq, e1, e2, e3, e4, e5] at hr; omega
theorem j_if_le_f {a off : Int} {tgt : Nat} (d : decode μ.2.1 pc = .ok (.ifCond .le off, 3)) (ht : (pc : Int) + off = (tgt : Int)) (ha : inR a) (hq : ¬ (a ≤ 0)) (k : J Γ μ (pc + 3) L st w t Q) : J Γ μ pc L (vI a :: st) w t Q := by
  intro p e R s m args below meth c H locs cells slots ls Qs B E hc hs hl hP hD hS
  have hx := B.1
  have hb := B.2.1
  have hz : inR 0 := by decide
  have e1 : Int32.ofInt a = 0 ↔ a = 0 := n_eq ha hz
  have e2 : Int32.ofInt a < 0 ↔ a < 0 := n_lt ha hz
  have e3 : 0 < Int32.ofInt a ↔ 0 < a := n_lt hz ha
  have e4 : Int32.ofInt a ≤ 0 ↔ a ≤ 0 := n_le ha hz
  have e5 : 0 ≤ Int32.ofInt a ↔ 0 ≤ a := n_le hz ha
  refine lv_if_le hx hb d ht (fun hr => ?_) (fun _ => k p e R s m args below meth c H locs cells slots ls Qs B E hc hs hl hP hD hS)
  exfalso; simp only [gt_iff_lt, ge_iff_le, ne_eq, e1, e2, e3, e4, e5] at hr; omega
theorem j_ifnull {q : Nat} {off : Int} (d : decode μ.2.1 pc = .ok (.ifnull off, 3))  (k : J Γ μ (pc + 3) L st w t Q) : J Γ μ pc L (vR q :: st) w t Q := by
  intro p e R s m args below meth c H locs cells slots ls Qs B E hc hs hl hP hD hS
  have hx := B.1
  have hb := B.2.1
  exact lv_ifnull hx hb d (k p e R s m args below meth c H locs cells slots ls Qs B E hc hs hl hP hD hS)
theorem j_ifnonnull {q : Nat} {off : Int} {tgt : Nat} (d : decode μ.2.1 pc = .ok (.ifnonnull off, 3)) (ht : (pc : Int) + off = (tgt : Int)) (k : J Γ μ tgt L st w t Q) : J Γ μ pc L (vR q :: st) w t Q := by
  intro p e R s m args below meth c H locs cells slots ls Qs B E hc hs hl hP hD hS
  have hx := B.1
  have hb := B.2.1
  exact lv_ifnonnull hx hb d ht (k p e R s m args below meth c H locs cells slots ls Qs B E hc hs hl hP hD hS)
end JR
