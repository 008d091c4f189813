/-! the outer walk: methods that make cells, in worlds that grow (printed by gen_j.py) -/
def fSB : u_T := fun k => match k with
  | 0 => ("java/lang/AbstractStringBuilder", "value", "[B", false)
  | 1 => ("java/lang/AbstractStringBuilder", "coder", "B", false)
  | 2 => ("java/lang/AbstractStringBuilder", "maybeLatin1", "Z", false)
  | _ => ("java/lang/AbstractStringBuilder", "count", "I", false)
def tSB : Nat → FieldType := fun k => match k with
  | 0 => .array .byte
  | 1 => .byte
  | 2 => .boolean
  | _ => .int
def fST : u_T := fun k => match k with
  | 0 => ("java/lang/String", "value", "[B", true)
  | 1 => ("java/lang/String", "coder", "B", true)
  | 2 => ("java/lang/String", "hash", "I", false)
  | _ => ("java/lang/String", "hashIsZero", "Z", false)
def tST : Nat → FieldType := fun k => match k with
  | 0 => .array .byte
  | 1 => .byte
  | 2 => .int
  | _ => .boolean
def nSB : String := "java/lang/StringBuilder"
def nST : String := "java/lang/String"
def clB : List vw_C := clA ++ [(nSB, fSB, 4), (nST, fST, 4)]
def tyB (κ : Nat → ClassId) : List (ClassId × FieldType) := [(κ 0, .int), (κ 1, .long), (κ 2, .byte), (κ 3, .array .int), (κ 4, .array (.array .int))]
theorem clB_9 : clB[9]? = some (nSB, fSB, 4) := rfl
theorem clB_10 : clB[10]? = some (nST, fST, 4) := rfl
theorem tSB_ok : ∀ k, k < 4 → parseFieldDescriptor (fSB k).2.2.1 = some (tSB k) := by decide +kernel
theorem tST_ok : ∀ k, k < 4 → parseFieldDescriptor (fST k).2.2.1 = some (tST k) := by decide +kernel
theorem fSB_nm : ∀ a, a < 4 → ∀ b, b < 4 → a ≠ b → (fSB a).2.1 ≠ (fSB b).2.1 := by decide +kernel
theorem fST_nm : ∀ a, a < 4 → ∀ b, b < 4 → a ≠ b → (fST a).2.1 ≠ (fST b).2.1 := by decide +kernel
/-- the law's String constants: their places, texts, bytes -/
def kx : List Nat := [161, 176, 185, 187, 189, 191, 193, 198, 200, 202, 214, 226]
def kt : List String := ["abcdprxy", "=&", "=", "=*", "*", "=new", "+", "=f", "(", ")", "", ";"]
def kb : List (List Int32) := [[97, 98, 99, 100, 112, 114, 120, 121], [61, 38], [61], [61, 42], [42], [61, 110, 101, 119], [43], [61, 102], [40], [41], [], [59]]
def kl : List Nat := [8, 2, 1, 2, 1, 4, 1, 2, 1, 1, 0, 1]
def dOne (j : Nat) : Int32 := Int32.ofNat (48 + j % 10)
abbrev KS : Type := (Nat → Nat) × ((Nat → Nat) × Nat)
abbrev JG : Type := Launch × ((Nat → ClassId) × (va_G × (KS × Nat)))
abbrev MD : Type := MethodName × (ByteArray × (Nat × (Option FieldType × (Nat × Nat))))
def AJ (sz : Nat) : Nat → Prop := fun q => sz ≤ q
def KK (a b : ClassId) (ty : FieldType) (s : State) : Prop := ∃ k : Class, s.vm.classes[a]? = some k ∧ k.kind = .array b ty
theorem KK.moved {a b : ClassId} {ty : FieldType} {s U : State} (hW : s.vm.Alike U.vm) (h : KK a b ty s) : KK a b ty U := by
  obtain ⟨k, h1, h2⟩ := h
  obtain ⟨k', hk', he⟩ := hW.2.2 _ _ h1
  exact ⟨k', hk', by rw [he]; exact h2⟩
def jPV : List MethodName := [⟨"java/lang/AbstractStringBuilder", "ensureCapacityInternal", "(I)V"⟩, ⟨"java/lang/AbstractStringBuilder", "newCapacity", "(I)I"⟩, ⟨"java/lang/AbstractStringBuilder", "putStringAt", "(ILjava/lang/String;)V"⟩, ⟨"java/lang/AbstractStringBuilder", "inflateIfNeededFor", "(Ljava/lang/String;)V"⟩]
def jAO : List FieldType := [.int, .array .int]
def CJ (Γ : JG) (s : State) : Prop := CX Γ.2.1 Γ.2.2.1 s ∧ (va_K Γ.2.2.1 clB (tyB Γ.2.1) s ∧ (KK (Γ.2.1 3) (Γ.2.1 0) (.array .int) s ∧ (KK (Γ.2.1 4) (Γ.2.1 3) (.array (.array .int)) s ∧ ((∀ x ∈ jPV, va_Nw (.selects nSB x x) s) ∧ ∀ ty ∈ jAO, (Cond.arrayOver (.array ty)).before #[] s = true))))
/-- the law's own script: where it lies, how long it is, its numbers -/
def scB (Γ : JG) : Nat := Γ.2.2.2.1.1 12
def scN (Γ : JG) : Nat := Γ.2.2.2.1.1 13
def scX (Γ : JG) (j : Nat) : Int32 := Int32.ofBitVec (BitVec.ofNat 32 (Γ.2.2.2.1.1 (14 + j)))
def HJ (Γ : JG) (U : State) : Prop :=
  (vx_Zq Bundle.tN "UNASSIGNED_STACK" Bundle.steD (AJ Γ.2.2.2.2) U U.heap ∧ vx_Zq Bundle.tN "SUPPRESSED_SENTINEL" Bundle.listD (AJ Γ.2.2.2.2) U U.heap) ∧
  (vk_S 12 kl kb Γ.2.2.2.1.1 Γ.2.2.2.1.2.1 (AJ Γ.2.2.2.2) U U.heap ∧ ((∀ i, i < 12 → vk_R (cN 12) (kx.getD i 0) (kt.getD i "") (Γ.2.2.2.1.1 i) U) ∧
  (va_Z "java/lang/String" "COMPACT_STRINGS" "Z" (.int 1) (AJ Γ.2.2.2.2) U U.heap ∧ (va_Zq "jdk/internal/util/Preconditions" "SIOOBE_FORMATTER" "Ljava/util/function/BiFunction;" (AJ Γ.2.2.2.2) U U.heap ∧
   (va_Z "java/lang/Integer" "DigitOnes" "[B" (.ref Γ.2.2.2.1.2.2) (AJ Γ.2.2.2.2) U U.heap ∧ (va_T .byte Γ.2.2.2.1.2.2 100 (fun j => .int (dOne j)) (AJ Γ.2.2.2.2) U U.heap ∧ va_T .int (scB Γ) (scN Γ) (fun j => .int (scX Γ j)) (AJ Γ.2.2.2.2) U U.heap))))))
theorem CJ.moved {Γ : JG} {s U : State} (hW : s.WarmedH U.vm) (h : CJ Γ s) : CJ Γ U := ⟨CX.moved hW h.1, va_K.moved hW.alike h.2.1, KK.moved hW.alike h.2.2.1, KK.moved hW.alike h.2.2.2.1, ⟨fun x hx => nw_warm (w := .selects nSB x x) rfl hW (h.2.2.2.2.1 x hx), fun ty hty => over_moved hW.alike (h.2.2.2.2.2 ty hty)⟩⟩
theorem HJ.moved {Γ : JG} {s U : State} {H : Heap} {locs : List Loc} (h : HJ Γ s) (hS : va_S (AJ Γ.2.2.2.2) s.heap H locs) (hU : U.heap = H) (hW : s.WarmedH U.vm) : HJ Γ U := by
  obtain ⟨⟨h1, h2⟩, h3, h4, h5, h6, h7, h8, h9⟩ := h
  unfold HJ
  rw [hU]
  exact ⟨⟨vx_Zq.moved hW.alike (h1.kept hS.2.1), vx_Zq.moved hW.alike (h2.kept hS.2.1)⟩, vk_S.moved hW.alike (h3.kept hS.2.1), fun i hi => vk_R.warm hW (h4 i hi), va_Z.moved hW.alike (h5.kept hS.2.1), va_Zq.moved hW.alike (h6.kept hS.2.1), va_Z.moved hW.alike (h7.kept hS.2.1), va_T.moved hW.alike (h8.kept hS.2.1), va_T.moved hW.alike (h9.kept hS.2.1)⟩
theorem HJ.same {Γ : JG} {s U : State} (h : HJ Γ s) (hU : U.heap = s.heap) (hW : s.WarmedH U.vm) : HJ Γ U := h.moved (H := s.heap) (locs := []) va_S.rf hU hW
/-- a frame of the method μ -/
def BJ (Γ : JG) (μ : MD) (p : Program) (R : Room) (s : State) (m : MethodId) (meth : Method) (c : Code) : Prop :=
  p.tables.exec = Jvm.exec ∧ c.code = μ.2.1 ∧ c.maxLocals = μ.2.2.1 ∧ s.vm.findClass μ.1.cls = some m.cls ∧ (meth.locks = false ∧ c.exceptionTable.toList = []) ∧ meth.name = μ.1.name ∧ CJ Γ s ∧ HJ Γ s ∧ Γ.2.2.2.2 ≤ s.heap.size ∧ μ.2.2.2.2.1 ≤ R.frames ∧ μ.2.2.2.2.2 ≤ R.locals
def retJ (i : Jvm.ClassFile.Instr) (ret : Option FieldType) (v : Option AV) : Prop :=
  (i = .ireturn ∧ ∃ z ty, v = some (vI z) ∧ ret = some ty ∧ narrow ty (.int (Int32.ofInt z)) = .int (Int32.ofInt z)) ∨ (i = .lreturn ∧ ∃ z, v = some (vL z) ∧ ret = some .long) ∨ (i = .areturn ∧ ∃ q ty, v = some (vR q) ∧ ret = some ty ∧ ((∃ n, ty = .object n) ∨ ∃ u, ty = .array u)) ∨ (i = .return_ ∧ v = none ∧ ret = none)
abbrev JQ : Type := Option AV → va_W → Prop
def EJ (Γ : JG) (μ : MD) (p : Program) (e : Env) (R : Room) (s : State) (m : MethodId) (args : Array Value) (below : List Frame) (meth : Method) (c : Code) (Qs : State → Prop) (Q : JQ) : Prop :=
  ∀ (pc : Nat) (i : Jvm.ClassFile.Instr) (v : Option AV) (w1 : va_W) (H1 : Heap) (locs1 : List Loc) (cells1 slots1 : Nat) (ls1 : Array Slot), decode μ.2.1 pc = .ok (i, 1) → retJ i μ.2.2.2.1 v → Q v w1 → va_P Γ.2.2.1 clB w1 H1 → va_D (AJ Γ.2.2.2.2) w1 → va_S (AJ Γ.2.2.2.2) s.heap H1 locs1 → cells1 ≤ R.cells → slots1 ≤ R.slots → W p Γ.1 e R s m args below meth c H1 locs1 cells1 slots1 Qs (F0 m pc ls1 (v.toList.map (cv id)))
def J (Γ : JG) (μ : MD) (pc : Nat) (L : Lo) (st : List AV) (w : va_W) (t : Nat) (Q : JQ) : Prop :=
  ∀ (p : Program) (e : Env) (R : Room) (s : State) (m : MethodId) (args : Array Value) (below : List Frame) (meth : Method) (c : Code) (H : Heap) (locs : List Loc) (cells slots : Nat) (ls : Array Slot) (Qs : State → Prop),
    BJ Γ μ p R s m meth c → EJ Γ μ p e R s m args below meth c Qs Q → cells + t ≤ R.cells → slots + 6 * t ≤ R.slots → lv_has ls μ.2.2.1 (lvs id 0 L) → va_P Γ.2.2.1 clB w H → va_D (AJ Γ.2.2.2.2) w → va_S (AJ Γ.2.2.2.2) s.heap H locs → W p Γ.1 e R s m args below meth c H locs cells slots Qs (F0 m pc ls (st.map (cv id)))
theorem J_mono {Γ : JG} {μ : MD} {pc : Nat} {L : Lo} {st : List AV} {w : va_W} {t : Nat} {Q Q' : JQ} (h : J Γ μ pc L st w t Q) (g : ∀ v w1, Q v w1 → Q' v w1) : J Γ μ pc L st w t Q' := by
  intro p e R s m args below meth c H locs cells slots ls Qs B E hc hs hl hP hD hS
  exact h p e R s m args below meth c H locs cells slots ls Qs B (fun pc i v w1 H1 locs1 cells1 slots1 ls1 d r q => E pc i v w1 H1 locs1 cells1 slots1 ls1 d r (g v w1 q)) hc hs hl hP hD hS
theorem J_t {Γ : JG} {μ : MD} {pc : Nat} {L : Lo} {st : List AV} {w : va_W} {t t' : Nat} {Q : JQ} (h : J Γ μ pc L st w t Q) (g : t ≤ t') : J Γ μ pc L st w t' Q := by
  intro p e R s m args below meth c H locs cells slots ls Qs B E hc hs hl hP hD hS
  exact h p e R s m args below meth c H locs cells slots ls Qs B E (by omega) (by omega) hl hP hD hS
theorem n_b128 : ∀ n, n < 128 → (Int32.ofInt ((n : Nat) : Int)).toInt8.toInt32 = Int32.ofInt ((n : Nat) : Int) ∧ ((Int32.ofInt ((n : Nat) : Int)).toUInt32 % 65536).toInt32 = Int32.ofInt ((n : Nat) : Int) := by decide +kernel
theorem n_i2b {a : Int} (h : 0 ≤ a ∧ a < 128) : (Int32.ofInt a).toInt8.toInt32 = Int32.ofInt a := by
  have := (n_b128 a.toNat (by omega)).1
  rwa [show ((a.toNat : Nat) : Int) = a by omega] at this
theorem n_i2c {a : Int} (h : 0 ≤ a ∧ a < 128) : ((Int32.ofInt a).toUInt32 % 65536).toInt32 = Int32.ofInt a := by
  have := (n_b128 a.toNat (by omega)).2
  rwa [show ((a.toNat : Nat) : Int) = a by omega] at this
/-- a number as the machine holds it -/
def wr (z : Int) : Int := (Int32.ofInt z).toInt
theorem wr_in (z : Int) : inR (wr z) := ⟨Int32.le_toInt _, Int32.toInt_lt _⟩
theorem wr_ofInt (z : Int) : Int32.ofInt (wr z) = Int32.ofInt z := Int32.ofInt_toInt _
theorem J_top {Γ : JG} {μ : MD} {pc : Nat} {L : Lo} {st : List AV} {w : va_W} {t : Nat} {Q : JQ} {a b : Int} (h : Int32.ofInt a = Int32.ofInt b) (k : J Γ μ pc L (vI b :: st) w t Q) : J Γ μ pc L (vI a :: st) w t Q := by
  intro p e R s m args below meth c H locs cells slots ls Qs B E hc hs hl hP hD hS
  have k1 := k p e R s m args below meth c H locs cells slots ls Qs B E hc hs hl hP hD hS
  simp only [List.map_cons, cv_vI] at k1 ⊢
  rw [h]; exact k1
section JR
variable {Γ : JG} {μ : MD} {pc : Nat} {L : Lo} {st : List AV} {w : va_W} {t : Nat} {Q : JQ}
theorem j_iconst {q} (d : decode μ.2.1 pc = .ok (.iconst q, 1))  (k : J Γ μ (pc + 1) L (vI q :: st) w t Q) : J Γ μ pc L st w t Q := by
  intro p e R s m args below meth c H locs cells slots ls Qs B E hc hs hl hP hD hS
  have hx := B.1
  have hb := B.2.1
  exact lv_iconst hx hb d rfl (k p e R s m args below meth c H locs cells slots ls Qs B E hc hs hl hP hD hS)
theorem j_bipush {q} (d : decode μ.2.1 pc = .ok (.bipush q, 2)) (hq : (Int8.ofInt q).toInt32 = Int32.ofInt q) (k : J Γ μ (pc + 2) L (vI q :: st) w t Q) : J Γ μ pc L st w t Q := by
  intro p e R s m args below meth c H locs cells slots ls Qs B E hc hs hl hP hD hS
  have hx := B.1
  have hb := B.2.1
  exact lv_bipush hx hb d hq (k p e R s m args below meth c H locs cells slots ls Qs B E hc hs hl hP hD hS)
theorem j_sipush {q} (d : decode μ.2.1 pc = .ok (.sipush q, 3)) (hq : (Int16.ofInt q).toInt32 = Int32.ofInt q) (k : J Γ μ (pc + 3) L (vI q :: st) w t Q) : J Γ μ pc L st w t Q := by
  intro p e R s m args below meth c H locs cells slots ls Qs B E hc hs hl hP hD hS
  have hx := B.1
  have hb := B.2.1
  exact lv_sipush hx hb d hq (k p e R s m args below meth c H locs cells slots ls Qs B E hc hs hl hP hD hS)
theorem j_lconst {q} (d : decode μ.2.1 pc = .ok (.lconst q, 1))  (k : J Γ μ (pc + 1) L (vL (BitVec.ofNat 64 q.val) :: st) w t Q) : J Γ μ pc L st w t Q := by
  intro p e R s m args below meth c H locs cells slots ls Qs B E hc hs hl hP hD hS
  have hx := B.1
  have hb := B.2.1
  exact lv_lconst hx hb d rfl (k p e R s m args below meth c H locs cells slots ls Qs B E hc hs hl hP hD hS)
theorem j_ldc {q : Nat} {z : Int} (d : decode μ.2.1 pc = .ok (.ldc q, 2)) (hw : Cond.constant μ.1.cls q (Int32.ofInt z) ∈ TS) (k : J Γ μ (pc + 2) L (vI z :: st) w t Q) : J Γ μ pc L st w t Q := by
  intro p e R s m args below meth c H locs cells slots ls Qs B E hc hs hl hP hD hS
  have hx := B.1
  have hb := B.2.1
  exact lv_ldc hx hb B.2.2.2.1 (B.2.2.2.2.2.2.1.1.words _ hw) d (k p e R s m args below meth c H locs cells slots ls Qs B E hc hs hl hP hD hS)
theorem j_ldcS {i : Nat} (d : decode μ.2.1 pc = .ok (.ldc (kx.getD i 0), 2)) (hi : i < 12) (hcl : μ.1.cls = cN 12) (k : J Γ μ (pc + 2) L (vR (Γ.2.2.2.1.1 i) :: st) w t Q) : J Γ μ pc L st w t Q := by
  intro p e R s m args below meth c H locs cells slots ls Qs B E hc hs hl hP hD hS
  have hx := B.1
  have hb := B.2.1
  have ho := B.2.2.2.1
  rw [hcl] at ho
  exact va_ldcS hx hb ho (B.2.2.2.2.2.2.2.1.2.2.1 i hi) d (k p e R s m args below meth c H locs cells slots ls Qs B E hc hs hl hP hD hS)
theorem j_iload_n {q} {a : Int} (d : decode μ.2.1 pc = .ok (.iload_n q, 1)) (hv : lget L q.val = some (vI a)) (k : J Γ μ (pc + 1) L (vI a :: st) w t Q) : J Γ μ pc L st w t Q := by
  intro p e R s m args below meth c H locs cells slots ls Qs B E hc hs hl hP hD hS
  have hx := B.1
  have hb := B.2.1
  exact lv_iload_n hx hb d rfl (lv_get hl hv) (k p e R s m args below meth c H locs cells slots ls Qs B E hc hs hl hP hD hS)
theorem j_iload {q : Nat} {a : Int} (d : decode μ.2.1 pc = .ok (.iload q, 2)) (hv : lget L q = some (vI a)) (k : J Γ μ (pc + 2) L (vI a :: st) w t Q) : J Γ μ pc L st w t Q := by
  intro p e R s m args below meth c H locs cells slots ls Qs B E hc hs hl hP hD hS
  have hx := B.1
  have hb := B.2.1
  exact lv_iload hx hb d (lv_get hl hv) (k p e R s m args below meth c H locs cells slots ls Qs B E hc hs hl hP hD hS)
theorem j_lload_n {q} {a : BitVec 64} (d : decode μ.2.1 pc = .ok (.lload_n q, 1)) (hv : lget L q.val = some (vL a)) (k : J Γ μ (pc + 1) L (vL a :: st) w t Q) : J Γ μ pc L st w t Q := by
  intro p e R s m args below meth c H locs cells slots ls Qs B E hc hs hl hP hD hS
  have hx := B.1
  have hb := B.2.1
  exact lv_lload_n hx hb d rfl (lv_get hl hv) (k p e R s m args below meth c H locs cells slots ls Qs B E hc hs hl hP hD hS)
theorem j_lload {q : Nat} {a : BitVec 64} (d : decode μ.2.1 pc = .ok (.lload q, 2)) (hv : lget L q = some (vL a)) (k : J Γ μ (pc + 2) L (vL a :: st) w t Q) : J Γ μ pc L st w t Q := by
  intro p e R s m args below meth c H locs cells slots ls Qs B E hc hs hl hP hD hS
  have hx := B.1
  have hb := B.2.1
  exact lv_lload hx hb d (lv_get hl hv) (k p e R s m args below meth c H locs cells slots ls Qs B E hc hs hl hP hD hS)
theorem j_aload_n {q} {a : Nat} (d : decode μ.2.1 pc = .ok (.aload_n q, 1)) (hv : lget L q.val = some (vR a)) (k : J Γ μ (pc + 1) L (vR a :: st) w t Q) : J Γ μ pc L st w t Q := by
  intro p e R s m args below meth c H locs cells slots ls Qs B E hc hs hl hP hD hS
  have hx := B.1
  have hb := B.2.1
  exact lv_aload_n hx hb d rfl (lv_get hl hv) (k p e R s m args below meth c H locs cells slots ls Qs B E hc hs hl hP hD hS)
theorem j_aload {q : Nat} {a : Nat} (d : decode μ.2.1 pc = .ok (.aload q, 2)) (hv : lget L q = some (vR a)) (k : J Γ μ (pc + 2) L (vR a :: st) w t Q) : J Γ μ pc L st w t Q := by
  intro p e R s m args below meth c H locs cells slots ls Qs B E hc hs hl hP hD hS
  have hx := B.1
  have hb := B.2.1
  exact lv_aload hx hb d (lv_get hl hv) (k p e R s m args below meth c H locs cells slots ls Qs B E hc hs hl hP hD hS)
theorem j_istore_n {q} {a : Int} (d : decode μ.2.1 pc = .ok (.istore_n q, 1)) (hq : q.val < μ.2.2.1) (k : J Γ μ (pc + 1) (lset L q.val (vI a)) st w t Q) : J Γ μ pc L (vI a :: st) w t Q := by
  intro p e R s m args below meth c H locs cells slots ls Qs B E hc hs hl hP hD hS
  have hx := B.1
  have hb := B.2.1
  exact lv_istore_n hx hb d rfl hl hq rfl (fun ls1 hl1 => k p e R s m args below meth c H locs cells slots ls1 Qs B E hc hs (lv_set1 rfl hl1) hP hD hS)
theorem j_istore {q : Nat} {a : Int} (d : decode μ.2.1 pc = .ok (.istore q, 2)) (hq : q < μ.2.2.1) (k : J Γ μ (pc + 2) (lset L q (vI a)) st w t Q) : J Γ μ pc L (vI a :: st) w t Q := by
  intro p e R s m args below meth c H locs cells slots ls Qs B E hc hs hl hP hD hS
  have hx := B.1
  have hb := B.2.1
  exact lv_istore hx hb d hl hq rfl (fun ls1 hl1 => k p e R s m args below meth c H locs cells slots ls1 Qs B E hc hs (lv_set1 rfl hl1) hP hD hS)
theorem j_lstore_n {q} {a : BitVec 64} (d : decode μ.2.1 pc = .ok (.lstore_n q, 1)) (hq : q.val + 1 < μ.2.2.1) (k : J Γ μ (pc + 1) (lset L q.val (vL a)) st w t Q) : J Γ μ pc L (vL a :: st) w t Q := by
  intro p e R s m args below meth c H locs cells slots ls Qs B E hc hs hl hP hD hS
  have hx := B.1
  have hb := B.2.1
  exact lv_lstore_n hx hb d rfl hl hq rfl (fun ls1 hl1 => k p e R s m args below meth c H locs cells slots ls1 Qs B E hc hs (lv_set2 rfl hl1) hP hD hS)
theorem j_lstore {q : Nat} {a : BitVec 64} (d : decode μ.2.1 pc = .ok (.lstore q, 2)) (hq : q + 1 < μ.2.2.1) (k : J Γ μ (pc + 2) (lset L q (vL a)) st w t Q) : J Γ μ pc L (vL a :: st) w t Q := by
  intro p e R s m args below meth c H locs cells slots ls Qs B E hc hs hl hP hD hS
  have hx := B.1
  have hb := B.2.1
  exact lv_lstore hx hb d hl hq rfl (fun ls1 hl1 => k p e R s m args below meth c H locs cells slots ls1 Qs B E hc hs (lv_set2 rfl hl1) hP hD hS)
theorem j_astore_n {q} {a : Nat} (d : decode μ.2.1 pc = .ok (.astore_n q, 1)) (hq : q.val < μ.2.2.1) (k : J Γ μ (pc + 1) (lset L q.val (vR a)) st w t Q) : J Γ μ pc L (vR a :: st) w t Q := by
  intro p e R s m args below meth c H locs cells slots ls Qs B E hc hs hl hP hD hS
  have hx := B.1
  have hb := B.2.1
  exact lv_astore_n hx hb d rfl hl hq rfl (fun ls1 hl1 => k p e R s m args below meth c H locs cells slots ls1 Qs B E hc hs (lv_set1 rfl hl1) hP hD hS)
theorem j_astore {q : Nat} {a : Nat} (d : decode μ.2.1 pc = .ok (.astore q, 2)) (hq : q < μ.2.2.1) (k : J Γ μ (pc + 2) (lset L q (vR a)) st w t Q) : J Γ μ pc L (vR a :: st) w t Q := by
  intro p e R s m args below meth c H locs cells slots ls Qs B E hc hs hl hP hD hS
  have hx := B.1
  have hb := B.2.1
  exact lv_astore hx hb d hl hq rfl (fun ls1 hl1 => k p e R s m args below meth c H locs cells slots ls1 Qs B E hc hs (lv_set1 rfl hl1) hP hD hS)
theorem j_iinc {q : Nat} {u a : Int} (d : decode μ.2.1 pc = .ok (.iinc q u, 3)) (hv : lget L q = some (vI a)) (hq : q < μ.2.2.1) (k : J Γ μ (pc + 3) (lset L q (vI (a + u))) st w t Q) : J Γ μ pc L st w t Q := by
  intro p e R s m args below meth c H locs cells slots ls Qs B E hc hs hl hP hD hS
  have hx := B.1
  have hb := B.2.1
  obtain ⟨k0, hk0⟩ := List.getElem?_of_mem (lvs_get (α := id) L 0 q _ hv)
  rw [Nat.zero_add] at hk0
  exact lv_iinc hx hb d hl hk0 (Int32.ofInt_add a u).symm hq rfl (fun ls1 hl1 => k p e R s m args below meth c H locs cells slots ls1 Qs B E hc hs (lv_set1 (v := vI (a + u)) rfl hl1) hP hD hS)
theorem j_dup {v : AV} (d : decode μ.2.1 pc = .ok (.dup, 1)) (hv : c2 v = false) (k : J Γ μ (pc + 1) L (v :: v :: st) w t Q) : J Γ μ pc L (v :: st) w t Q := by
  intro p e R s m args below meth c H locs cells slots ls Qs B E hc hs hl hP hD hS
  have hx := B.1
  have hb := B.2.1
  exact lv_dup hx hb d (by rw [cv_cat, hv]; rfl) (k p e R s m args below meth c H locs cells slots ls Qs B E hc hs hl hP hD hS)
theorem j_dup_x1 {v u : AV} (d : decode μ.2.1 pc = .ok (.dup_x1, 1)) (hv : c2 v = false) (hu : c2 u = false) (k : J Γ μ (pc + 1) L (v :: u :: v :: st) w t Q) : J Γ μ pc L (v :: u :: st) w t Q := by
  intro p e R s m args below meth c H locs cells slots ls Qs B E hc hs hl hP hD hS
  have hx := B.1
  have hb := B.2.1
  exact lv_dup_x1 hx hb d (by rw [cv_cat, hv]; rfl) (by rw [cv_cat, hu]; rfl) (k p e R s m args below meth c H locs cells slots ls Qs B E hc hs hl hP hD hS)
theorem j_pop {v : AV} (d : decode μ.2.1 pc = .ok (.pop, 1)) (hv : c2 v = false) (k : J Γ μ (pc + 1) L st w t Q) : J Γ μ pc L (v :: st) w t Q := by
  intro p e R s m args below meth c H locs cells slots ls Qs B E hc hs hl hP hD hS
  have hx := B.1
  have hb := B.2.1
  exact lv_pop hx hb d (by rw [cv_cat, hv]; rfl) (k p e R s m args below meth c H locs cells slots ls Qs B E hc hs hl hP hD hS)
theorem j_pop2 {v : AV} (d : decode μ.2.1 pc = .ok (.pop2, 1)) (hv : c2 v = true) (k : J Γ μ (pc + 1) L st w t Q) : J Γ μ pc L (v :: st) w t Q := by
  intro p e R s m args below meth c H locs cells slots ls Qs B E hc hs hl hP hD hS
  have hx := B.1
  have hb := B.2.1
  exact lv_pop2_2 hx hb d (by rw [cv_cat, hv]; rfl) (k p e R s m args below meth c H locs cells slots ls Qs B E hc hs hl hP hD hS)
theorem j_iadd {a b : Int} (d : decode μ.2.1 pc = .ok (.iadd, 1))  (k : J Γ μ (pc + 1) L (vI (a + b) :: st) w t Q) : J Γ μ pc L (vI b :: vI a :: st) w t Q := by
  intro p e R s m args below meth c H locs cells slots ls Qs B E hc hs hl hP hD hS
  have hx := B.1
  have hb := B.2.1
  have k1 := k p e R s m args below meth c H locs cells slots ls Qs B E hc hs hl hP hD hS
  simp only [List.map_cons, cv_vI, cv_vL] at k1 ⊢
  rw [Int32.ofInt_add] at k1
  exact lv_iadd hx hb d k1
theorem j_isub {a b : Int} (d : decode μ.2.1 pc = .ok (.isub, 1))  (k : J Γ μ (pc + 1) L (vI (a - b) :: st) w t Q) : J Γ μ pc L (vI b :: vI a :: st) w t Q := by
  intro p e R s m args below meth c H locs cells slots ls Qs B E hc hs hl hP hD hS
  have hx := B.1
  have hb := B.2.1
  have k1 := k p e R s m args below meth c H locs cells slots ls Qs B E hc hs hl hP hD hS
  simp only [List.map_cons, cv_vI, cv_vL] at k1 ⊢
  rw [Int32.ofInt_sub] at k1
  exact lv_isub hx hb d k1
theorem j_imul {a b : Int} (d : decode μ.2.1 pc = .ok (.imul, 1))  (k : J Γ μ (pc + 1) L (vI (a * b) :: st) w t Q) : J Γ μ pc L (vI b :: vI a :: st) w t Q := by
  intro p e R s m args below meth c H locs cells slots ls Qs B E hc hs hl hP hD hS
  have hx := B.1
  have hb := B.2.1
  have k1 := k p e R s m args below meth c H locs cells slots ls Qs B E hc hs hl hP hD hS
  simp only [List.map_cons, cv_vI, cv_vL] at k1 ⊢
  rw [Int32.ofInt_mul] at k1
  exact lv_imul hx hb d k1
theorem j_iand {a b : Int} (d : decode μ.2.1 pc = .ok (.iand, 1))  (k : J Γ μ (pc + 1) L (vI (iAnd a b) :: st) w t Q) : J Γ μ pc L (vI b :: vI a :: st) w t Q := by
  intro p e R s m args below meth c H locs cells slots ls Qs B E hc hs hl hP hD hS
  have hx := B.1
  have hb := B.2.1
  have k1 := k p e R s m args below meth c H locs cells slots ls Qs B E hc hs hl hP hD hS
  simp only [List.map_cons, cv_vI, cv_vL] at k1 ⊢
  rw [← n_and] at k1
  exact lv_iand hx hb d k1
theorem j_ineg {a : Int} (d : decode μ.2.1 pc = .ok (.ineg, 1))  (k : J Γ μ (pc + 1) L (vI (-a) :: st) w t Q) : J Γ μ pc L (vI a :: st) w t Q := by
  intro p e R s m args below meth c H locs cells slots ls Qs B E hc hs hl hP hD hS
  have hx := B.1
  have hb := B.2.1
  have k1 := k p e R s m args below meth c H locs cells slots ls Qs B E hc hs hl hP hD hS
  simp only [List.map_cons, cv_vI, cv_vL] at k1 ⊢
  rw [Int32.ofInt_neg] at k1
  exact lv_ineg hx hb d k1
theorem j_ishl {a b : Int} (d : decode μ.2.1 pc = .ok (.ishl, 1)) (h0 : 0 ≤ b) (h1 : b < 32) (k : J Γ μ (pc + 1) L (vI (a * 2 ^ b.toNat) :: st) w t Q) : J Γ μ pc L (vI b :: vI a :: st) w t Q := by
  intro p e R s m args below meth c H locs cells slots ls Qs B E hc hs hl hP hD hS
  have hx := B.1
  have hb := B.2.1
  have k1 := k p e R s m args below meth c H locs cells slots ls Qs B E hc hs hl hP hD hS
  simp only [List.map_cons, cv_vI, cv_vL] at k1 ⊢
  rw [← n_shl a h0 h1] at k1
  exact lv_ishl hx hb d k1
theorem j_ishr {a b : Int} (d : decode μ.2.1 pc = .ok (.ishr, 1)) (ha : inR a) (h0 : 0 ≤ b) (h1 : b < 32) (k : J Γ μ (pc + 1) L (vI (a / 2 ^ b.toNat) :: st) w t Q) : J Γ μ pc L (vI b :: vI a :: st) w t Q := by
  intro p e R s m args below meth c H locs cells slots ls Qs B E hc hs hl hP hD hS
  have hx := B.1
  have hb := B.2.1
  have k1 := k p e R s m args below meth c H locs cells slots ls Qs B E hc hs hl hP hD hS
  simp only [List.map_cons, cv_vI, cv_vL] at k1 ⊢
  rw [← n_shr ha h0 h1] at k1
  exact lv_ishr hx hb d k1
theorem j_i2l {a : Int} (d : decode μ.2.1 pc = .ok (.i2l, 1)) (ha : inR a) (k : J Γ μ (pc + 1) L (vL (BitVec.ofInt 64 a) :: st) w t Q) : J Γ μ pc L (vI a :: st) w t Q := by
  intro p e R s m args below meth c H locs cells slots ls Qs B E hc hs hl hP hD hS
  have hx := B.1
  have hb := B.2.1
  have k1 := k p e R s m args below meth c H locs cells slots ls Qs B E hc hs hl hP hD hS
  simp only [List.map_cons, cv_vI, cv_vL] at k1 ⊢
  exact lv_i2l hx hb d (n_i2l ha) k1
theorem j_i2b {a : Int} (d : decode μ.2.1 pc = .ok (.i2b, 1)) (ha : 0 ≤ a ∧ a < 128) (k : J Γ μ (pc + 1) L (vI a :: st) w t Q) : J Γ μ pc L (vI a :: st) w t Q := by
  intro p e R s m args below meth c H locs cells slots ls Qs B E hc hs hl hP hD hS
  have hx := B.1
  have hb := B.2.1
  have k1 := k p e R s m args below meth c H locs cells slots ls Qs B E hc hs hl hP hD hS
  simp only [List.map_cons, cv_vI, cv_vL] at k1 ⊢
  exact lv_i2b hx hb d (n_i2b ha) k1
theorem j_i2c {a : Int} (d : decode μ.2.1 pc = .ok (.i2c, 1)) (ha : 0 ≤ a ∧ a < 128) (k : J Γ μ (pc + 1) L (vI a :: st) w t Q) : J Γ μ pc L (vI a :: st) w t Q := by
  intro p e R s m args below meth c H locs cells slots ls Qs B E hc hs hl hP hD hS
  have hx := B.1
  have hb := B.2.1
  have k1 := k p e R s m args below meth c H locs cells slots ls Qs B E hc hs hl hP hD hS
  simp only [List.map_cons, cv_vI, cv_vL] at k1 ⊢
  exact lv_i2c hx hb d (n_i2c ha) k1
theorem j_lcmp {a b : BitVec 64} (d : decode μ.2.1 pc = .ok (.lcmp, 1))  (k : J Γ μ (pc + 1) L (vI (lCmp a b) :: st) w t Q) : J Γ μ pc L (vL b :: vL a :: st) w t Q := by
  intro p e R s m args below meth c H locs cells slots ls Qs B E hc hs hl hP hD hS
  have hx := B.1
  have hb := B.2.1
  have k1 := k p e R s m args below meth c H locs cells slots ls Qs B E hc hs hl hP hD hS
  simp only [List.map_cons, cv_vI, cv_vL] at k1 ⊢
  rw [← n_lcmp] at k1
  exact W.lcmp hx hb d k1
theorem j_goto {off : Int} {tgt : Nat} (d : decode μ.2.1 pc = .ok (.goto off, 3)) (ht : (pc : Int) + off = (tgt : Int)) (k : J Γ μ tgt L st w t Q) : J Γ μ pc L st w t Q := by
  intro p e R s m args below meth c H locs cells slots ls Qs B E hc hs hl hP hD hS
  have hx := B.1
  have hb := B.2.1
  exact lv_goto hx hb d ht (k p e R s m args below meth c H locs cells slots ls Qs B E hc hs hl hP hD hS)
end JR
