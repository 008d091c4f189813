/-! one row an instruction, for the blocks that gen_x.py prints -/
theorem w_and {a b c : Prop} (h : b ↔ c) : (a ∧ b) ↔ (a ∧ c) := ⟨fun g => ⟨g.1, h.mp g.2⟩, fun g => ⟨g.1, h.mpr g.2⟩⟩
section XR
variable {mi pc t : Nat} {en : Nat × (Nat × (Nat × (Nat × Int)))} {L : Lo} {st : List AV} {σ : St} {Q : Res → St → Prop}
theorem w_iconst {n} (h : cd mi pc = some (.iconst n, en)) : wp t mi pc L st σ Q ↔ wp t mi (pc + 1) L (vI n :: st) σ Q := wp_ss h rfl
theorem w_bipush {n} (h : cd mi pc = some (.bipush n, en)) : wp t mi pc L st σ Q ↔ wp t mi (pc + 2) L (vI n :: st) σ Q := wp_ss h rfl
theorem w_sipush {n} (h : cd mi pc = some (.sipush n, en)) : wp t mi pc L st σ Q ↔ wp t mi (pc + 3) L (vI n :: st) σ Q := wp_ss h rfl
theorem w_lconst {n} (h : cd mi pc = some (.lconst n, en)) : wp t mi pc L st σ Q ↔ wp t mi (pc + 1) L (vL (BitVec.ofNat 64 n.val) :: st) σ Q := wp_ss h rfl
theorem w_fconst (h : cd mi pc = some (.fconst 0, en)) : wp t mi pc L st σ Q ↔ wp t mi (pc + 1) L (vF 0 :: st) σ Q := wp_ss h rfl
theorem w_dconst (h : cd mi pc = some (.dconst 0, en)) : wp t mi pc L st σ Q ↔ wp t mi (pc + 1) L (vD 0 :: st) σ Q := wp_ss h rfl
theorem w_ldc2_w {i l x y w} {z : Int} (h : cd mi pc = some (.ldc2_w i, l, x, y, w, z)) : wp t mi pc L st σ Q ↔ wp t mi (pc + 3) L (vL (BitVec.ofInt 64 z) :: st) σ Q := wp_ss h rfl
theorem w_iload_n {j} {z : Int} (h : cd mi pc = some (.iload_n j, en)) (hl : lget L j.val = some (vI z)) : wp t mi pc L st σ Q ↔ wp t mi (pc + 1) L (vI z :: st) σ Q := by
  rw [wp_ss h rfl]; show eO (lget L j.val) _ _ ↔ _; rw [hl]; exact Iff.rfl
theorem w_lload_n {j} {z : BitVec 64} (h : cd mi pc = some (.lload_n j, en)) (hl : lget L j.val = some (vL z)) : wp t mi pc L st σ Q ↔ wp t mi (pc + 1) L (vL z :: st) σ Q := by
  rw [wp_ss h rfl]; show eO (lget L j.val) _ _ ↔ _; rw [hl]; exact Iff.rfl
theorem w_aload_n {j} {z : Nat} (h : cd mi pc = some (.aload_n j, en)) (hl : lget L j.val = some (vR z)) : wp t mi pc L st σ Q ↔ wp t mi (pc + 1) L (vR z :: st) σ Q := by
  rw [wp_ss h rfl]; show eO (lget L j.val) _ _ ↔ _; rw [hl]; exact Iff.rfl
theorem w_iload {j} {z : Int} (h : cd mi pc = some (.iload j, en)) (hl : lget L j = some (vI z)) : wp t mi pc L st σ Q ↔ wp t mi (pc + 2) L (vI z :: st) σ Q := by
  rw [wp_ss h rfl]; show eO (lget L j) _ _ ↔ _; rw [hl]; exact Iff.rfl
theorem w_lload {j} {z : BitVec 64} (h : cd mi pc = some (.lload j, en)) (hl : lget L j = some (vL z)) : wp t mi pc L st σ Q ↔ wp t mi (pc + 2) L (vL z :: st) σ Q := by
  rw [wp_ss h rfl]; show eO (lget L j) _ _ ↔ _; rw [hl]; exact Iff.rfl
theorem w_dload {j} {z : UInt64} (h : cd mi pc = some (.dload j, en)) (hl : lget L j = some (vD z)) : wp t mi pc L st σ Q ↔ wp t mi (pc + 2) L (vD z :: st) σ Q := by
  rw [wp_ss h rfl]; show eO (lget L j) _ _ ↔ _; rw [hl]; exact Iff.rfl
theorem w_fload {j} {z : UInt32} (h : cd mi pc = some (.fload j, en)) (hl : lget L j = some (vF z)) : wp t mi pc L st σ Q ↔ wp t mi (pc + 2) L (vF z :: st) σ Q := by
  rw [wp_ss h rfl]; show eO (lget L j) _ _ ↔ _; rw [hl]; exact Iff.rfl
theorem w_aload {j} {z : Nat} (h : cd mi pc = some (.aload j, en)) (hl : lget L j = some (vR z)) : wp t mi pc L st σ Q ↔ wp t mi (pc + 2) L (vR z :: st) σ Q := by
  rw [wp_ss h rfl]; show eO (lget L j) _ _ ↔ _; rw [hl]; exact Iff.rfl
theorem w_istore_n {j} {z : Int} (h : cd mi pc = some (.istore_n j, en)) : wp t mi pc L (vI z :: st) σ Q ↔ wp t mi (pc + 1) (lset L j.val (vI z)) st σ Q := wp_ss h rfl
theorem w_lstore_n {j} {z : BitVec 64} (h : cd mi pc = some (.lstore_n j, en)) : wp t mi pc L (vL z :: st) σ Q ↔ wp t mi (pc + 1) (lset L j.val (vL z)) st σ Q := wp_ss h rfl
theorem w_astore_n {j} {z : Nat} (h : cd mi pc = some (.astore_n j, en)) : wp t mi pc L (vR z :: st) σ Q ↔ wp t mi (pc + 1) (lset L j.val (vR z)) st σ Q := wp_ss h rfl
theorem w_istore {j} {z : Int} (h : cd mi pc = some (.istore j, en)) : wp t mi pc L (vI z :: st) σ Q ↔ wp t mi (pc + 2) (lset L j (vI z)) st σ Q := wp_ss h rfl
theorem w_lstore {j} {z : BitVec 64} (h : cd mi pc = some (.lstore j, en)) : wp t mi pc L (vL z :: st) σ Q ↔ wp t mi (pc + 2) (lset L j (vL z)) st σ Q := wp_ss h rfl
theorem w_dstore {j} {z : UInt64} (h : cd mi pc = some (.dstore j, en)) : wp t mi pc L (vD z :: st) σ Q ↔ wp t mi (pc + 2) (lset L j (vD z)) st σ Q := wp_ss h rfl
theorem w_fstore {j} {z : UInt32} (h : cd mi pc = some (.fstore j, en)) : wp t mi pc L (vF z :: st) σ Q ↔ wp t mi (pc + 2) (lset L j (vF z)) st σ Q := wp_ss h rfl
theorem w_astore {j} {z : Nat} (h : cd mi pc = some (.astore j, en)) : wp t mi pc L (vR z :: st) σ Q ↔ wp t mi (pc + 2) (lset L j (vR z)) st σ Q := wp_ss h rfl
theorem w_iinc {j} {n z : Int} (h : cd mi pc = some (.iinc j n, en)) (hl : lget L j = some (vI z)) : wp t mi pc L st σ Q ↔ wp t mi (pc + 3) (lset L j (vI (z + n))) st σ Q := by
  rw [wp_ss h rfl]; show eO (lget L j) _ _ ↔ _; rw [hl]; exact Iff.rfl
theorem w_dup {v : AV} (h : cd mi pc = some (.dup, en)) (hv : c2 v = false) : wp t mi pc L (v :: st) σ Q ↔ wp t mi (pc + 1) L (v :: v :: st) σ Q := by
  rw [wp_ss h rfl]; show (if c2 v = false then _ else _) ↔ _; rw [if_pos hv]
theorem w_dup2 {v w : AV} (h : cd mi pc = some (.dup2, en)) (hv : c2 v = false) (hw : c2 w = false) : wp t mi pc L (v :: w :: st) σ Q ↔ wp t mi (pc + 1) L (v :: w :: v :: w :: st) σ Q := by
  rw [wp_ss h rfl]; show (if c2 v = false ∧ c2 w = false then _ else _) ↔ _; rw [if_pos ⟨hv, hw⟩]
theorem w_pop {v : AV} (h : cd mi pc = some (.pop, en)) (hv : c2 v = false) : wp t mi pc L (v :: st) σ Q ↔ wp t mi (pc + 1) L st σ Q := by
  rw [wp_ss h rfl]; show (if c2 v = false then _ else _) ↔ _; rw [if_pos hv]
theorem w_pop2 {v : AV} (h : cd mi pc = some (.pop2, en)) (hv : c2 v = true) : wp t mi pc L (v :: st) σ Q ↔ wp t mi (pc + 1) L st σ Q := by
  rw [wp_ss h rfl]; show (if c2 v = true then _ else _) ↔ _; rw [if_pos hv]
theorem w_iadd {a b : Int} (h : cd mi pc = some (.iadd, en)) : wp t mi pc L (vI b :: vI a :: st) σ Q ↔ wp t mi (pc + 1) L (vI (a + b) :: st) σ Q := wp_ss h rfl
theorem w_isub {a b : Int} (h : cd mi pc = some (.isub, en)) : wp t mi pc L (vI b :: vI a :: st) σ Q ↔ wp t mi (pc + 1) L (vI (a - b) :: st) σ Q := wp_ss h rfl
theorem w_imul {a b : Int} (h : cd mi pc = some (.imul, en)) : wp t mi pc L (vI b :: vI a :: st) σ Q ↔ wp t mi (pc + 1) L (vI (a * b) :: st) σ Q := wp_ss h rfl
theorem w_iand {a b : Int} (h : cd mi pc = some (.iand, en)) : wp t mi pc L (vI b :: vI a :: st) σ Q ↔ wp t mi (pc + 1) L (vI (iAnd a b) :: st) σ Q := wp_ss h rfl
theorem w_ior {a b : Int} (h : cd mi pc = some (.ior, en)) : wp t mi pc L (vI b :: vI a :: st) σ Q ↔ wp t mi (pc + 1) L (vI (iOr a b) :: st) σ Q := wp_ss h rfl
theorem ite_and {c : Prop} {d : Decidable c} {a : Prop} : (if c then a else False) ↔ (c ∧ a) := by
  by_cases h : c
  · rw [if_pos h]; exact ⟨fun g => ⟨h, g⟩, fun g => g.2⟩
  · rw [if_neg h]; exact ⟨fun g => g.elim, fun g => h g.1⟩
theorem ite_two {c : Prop} {d : Decidable c} {a b : Prop} : (if c then a else b) ↔ ((c → a) ∧ (¬ c → b)) := by
  by_cases h : c
  · rw [if_pos h]; exact ⟨fun g => ⟨fun _ => g, fun n => absurd h n⟩, fun g => g.1 h⟩
  · rw [if_neg h]; exact ⟨fun g => ⟨fun n => absurd n h, fun _ => g⟩, fun g => g.2 h⟩
theorem w_idiv {a b : Int} (h : cd mi pc = some (.idiv, en)) : wp t mi pc L (vI b :: vI a :: st) σ Q ↔ (nR a ∧ nR b ∧ b ≠ 0) ∧ wp t mi (pc + 1) L (vI (a / b) :: st) σ Q := (wp_ss h rfl).trans ite_and
theorem w_irem {a b : Int} (h : cd mi pc = some (.irem, en)) : wp t mi pc L (vI b :: vI a :: st) σ Q ↔ (nR a ∧ nR b ∧ b ≠ 0) ∧ wp t mi (pc + 1) L (vI (a % b) :: st) σ Q := (wp_ss h rfl).trans ite_and
theorem w_idivK {a b : Int} (h : cd mi pc = some (.idiv, en)) (hb : nR b ∧ b ≠ 0) : wp t mi pc L (vI b :: vI a :: st) σ Q ↔ nR a ∧ wp t mi (pc + 1) L (vI (a / b) :: st) σ Q :=
  (w_idiv h).trans ⟨fun g => ⟨g.1.1, g.2⟩, fun g => ⟨⟨g.1, hb⟩, g.2⟩⟩
theorem w_iremK {a b : Int} (h : cd mi pc = some (.irem, en)) (hb : nR b ∧ b ≠ 0) : wp t mi pc L (vI b :: vI a :: st) σ Q ↔ nR a ∧ wp t mi (pc + 1) L (vI (a % b) :: st) σ Q :=
  (w_irem h).trans ⟨fun g => ⟨g.1.1, g.2⟩, fun g => ⟨⟨g.1, hb⟩, g.2⟩⟩
theorem w_ishl {a b : Int} (h : cd mi pc = some (.ishl, en)) : wp t mi pc L (vI b :: vI a :: st) σ Q ↔ (0 ≤ b ∧ b < 32) ∧ wp t mi (pc + 1) L (vI (a * 2 ^ b.toNat) :: st) σ Q := (wp_ss h rfl).trans ite_and
theorem w_ishr {a b : Int} (h : cd mi pc = some (.ishr, en)) : wp t mi pc L (vI b :: vI a :: st) σ Q ↔ (inR a ∧ 0 ≤ b ∧ b < 32) ∧ wp t mi (pc + 1) L (vI (a / 2 ^ b.toNat) :: st) σ Q := (wp_ss h rfl).trans ite_and
theorem w_ishlK {a b : Int} (c : Int) (h : cd mi pc = some (.ishl, en)) (hb : 0 ≤ b ∧ b < 32) (hc : (2 : Int) ^ b.toNat = c) : wp t mi pc L (vI b :: vI a :: st) σ Q ↔ wp t mi (pc + 1) L (vI (a * c) :: st) σ Q := by
  rw [w_ishl h, hc]; exact ⟨fun g => g.2, fun g => ⟨hb, g⟩⟩
theorem w_ishrK {a b : Int} (c : Int) (h : cd mi pc = some (.ishr, en)) (hb : 0 ≤ b ∧ b < 32) (hc : (2 : Int) ^ b.toNat = c) : wp t mi pc L (vI b :: vI a :: st) σ Q ↔ inR a ∧ wp t mi (pc + 1) L (vI (a / c) :: st) σ Q := by
  rw [w_ishr h, hc]; exact ⟨fun g => ⟨g.1.1, g.2⟩, fun g => ⟨⟨g.1, hb⟩, g.2⟩⟩
theorem w_ladd {a b : BitVec 64} (h : cd mi pc = some (.ladd, en)) : wp t mi pc L (vL b :: vL a :: st) σ Q ↔ wp t mi (pc + 1) L (vL (a + b) :: st) σ Q := wp_ss h rfl
theorem w_lsub {a b : BitVec 64} (h : cd mi pc = some (.lsub, en)) : wp t mi pc L (vL b :: vL a :: st) σ Q ↔ wp t mi (pc + 1) L (vL (a - b) :: st) σ Q := wp_ss h rfl
theorem w_land {a b : BitVec 64} (h : cd mi pc = some (.land, en)) : wp t mi pc L (vL b :: vL a :: st) σ Q ↔ wp t mi (pc + 1) L (vL (a &&& b) :: st) σ Q := wp_ss h rfl
theorem w_lor {a b : BitVec 64} (h : cd mi pc = some (.lor, en)) : wp t mi pc L (vL b :: vL a :: st) σ Q ↔ wp t mi (pc + 1) L (vL (a ||| b) :: st) σ Q := wp_ss h rfl
theorem w_lxor {a b : BitVec 64} (h : cd mi pc = some (.lxor, en)) : wp t mi pc L (vL b :: vL a :: st) σ Q ↔ wp t mi (pc + 1) L (vL (a ^^^ b) :: st) σ Q := wp_ss h rfl
theorem w_lshl {a : BitVec 64} {b : Int} (h : cd mi pc = some (.lshl, en)) : wp t mi pc L (vI b :: vL a :: st) σ Q ↔ wp t mi (pc + 1) L (vL (a <<< sh6 b) :: st) σ Q := wp_ss h rfl
theorem w_lushr {a : BitVec 64} {b : Int} (h : cd mi pc = some (.lushr, en)) : wp t mi pc L (vI b :: vL a :: st) σ Q ↔ wp t mi (pc + 1) L (vL (a >>> sh6 b) :: st) σ Q := wp_ss h rfl
theorem w_lshr {a : BitVec 64} {b : Int} (h : cd mi pc = some (.lshr, en)) : wp t mi pc L (vI b :: vL a :: st) σ Q ↔ wp t mi (pc + 1) L (vL (a.sshiftRight (sh6 b)) :: st) σ Q := wp_ss h rfl
theorem w_lcmp {a b : BitVec 64} (h : cd mi pc = some (.lcmp, en)) : wp t mi pc L (vL b :: vL a :: st) σ Q ↔ wp t mi (pc + 1) L (vI (lCmp a b) :: st) σ Q := wp_ss h rfl
theorem w_dcmp {op} {a b : UInt64} (h : cd mi pc = some (.dcmp op, en)) : wp t mi pc L (vD b :: vD a :: st) σ Q ↔ wp t mi (pc + 1) L (vI (Op.cmpValue (FP.dcmp a b) op).toInt :: st) σ Q := wp_ss h rfl
theorem w_ddiv {a b : UInt64} (h : cd mi pc = some (.ddiv, en)) : wp t mi pc L (vD b :: vD a :: st) σ Q ↔ n64 (FP.ddiv a b) ∧ wp t mi (pc + 1) L (vD (FP.ddiv a b) :: st) σ Q := (wp_ss h rfl).trans ite_and
theorem w_fdiv {a b : UInt32} (h : cd mi pc = some (.fdiv, en)) : wp t mi pc L (vF b :: vF a :: st) σ Q ↔ n32 (FP.fdiv a b) ∧ wp t mi (pc + 1) L (vF (FP.fdiv a b) :: st) σ Q := (wp_ss h rfl).trans ite_and
theorem w_i2l {a : Int} (h : cd mi pc = some (.i2l, en)) : wp t mi pc L (vI a :: st) σ Q ↔ inR a ∧ wp t mi (pc + 1) L (vL (BitVec.ofInt 64 a) :: st) σ Q := (wp_ss h rfl).trans ite_and
theorem w_l2i {a : BitVec 64} (h : cd mi pc = some (.l2i, en)) : wp t mi pc L (vL a :: st) σ Q ↔ wp t mi (pc + 1) L (vI a.toInt :: st) σ Q := wp_ss h rfl
theorem w_i2d {a : Int} (h : cd mi pc = some (.i2d, en)) : wp t mi pc L (vI a :: st) σ Q ↔ wp t mi (pc + 1) L (vD (dbl a) :: st) σ Q := wp_ss h rfl
theorem w_i2f {a : Int} (h : cd mi pc = some (.i2f, en)) : wp t mi pc L (vI a :: st) σ Q ↔ wp t mi (pc + 1) L (vF (flt a) :: st) σ Q := wp_ss h rfl
theorem w_f2d {a : UInt32} (h : cd mi pc = some (.f2d, en)) : wp t mi pc L (vF a :: st) σ Q ↔ n64 (FP.f2d a) ∧ wp t mi (pc + 1) L (vD (FP.f2d a) :: st) σ Q := (wp_ss h rfl).trans ite_and
theorem w_goto {o l x} {e2 : Nat × (Nat × Int)} (h : cd mi pc = some (.goto o, l, x, e2)) : wp t mi pc L st σ Q ↔ wp t mi x L st σ Q := wp_ss h rfl
theorem ite2_and {c c2 : Prop} {d : Decidable c} {d2 : Decidable c2} {a b : Prop} : (if c then (if c2 then a else b) else False) ↔ (c ∧ ((c2 → a) ∧ (¬ c2 → b))) := ite_and.trans (w_and ite_two)
theorem w_icmp_eq {o l x} {e2 : Nat × (Nat × Int)} {a b : Int} (h : cd mi pc = some (.if_icmp .eq o, l, x, e2)) : wp t mi pc L (vI b :: vI a :: st) σ Q ↔ (inR a ∧ inR b) ∧ ((a = b → wp t mi x L st σ Q) ∧ (¬ a = b → wp t mi (pc + 3) L st σ Q)) := (wp_ss h rfl).trans ite2_and
theorem w_icmp_ne {o l x} {e2 : Nat × (Nat × Int)} {a b : Int} (h : cd mi pc = some (.if_icmp .ne o, l, x, e2)) : wp t mi pc L (vI b :: vI a :: st) σ Q ↔ (inR a ∧ inR b) ∧ ((a = b → wp t mi (pc + 3) L st σ Q) ∧ (¬ a = b → wp t mi x L st σ Q)) := (wp_ss h rfl).trans ite2_and
theorem w_icmp_lt {o l x} {e2 : Nat × (Nat × Int)} {a b : Int} (h : cd mi pc = some (.if_icmp .lt o, l, x, e2)) : wp t mi pc L (vI b :: vI a :: st) σ Q ↔ (inR a ∧ inR b) ∧ ((a < b → wp t mi x L st σ Q) ∧ (¬ a < b → wp t mi (pc + 3) L st σ Q)) := (wp_ss h rfl).trans ite2_and
theorem w_icmp_ge {o l x} {e2 : Nat × (Nat × Int)} {a b : Int} (h : cd mi pc = some (.if_icmp .ge o, l, x, e2)) : wp t mi pc L (vI b :: vI a :: st) σ Q ↔ (inR a ∧ inR b) ∧ ((a < b → wp t mi (pc + 3) L st σ Q) ∧ (¬ a < b → wp t mi x L st σ Q)) := (wp_ss h rfl).trans ite2_and
theorem w_icmp_gt {o l x} {e2 : Nat × (Nat × Int)} {a b : Int} (h : cd mi pc = some (.if_icmp .gt o, l, x, e2)) : wp t mi pc L (vI b :: vI a :: st) σ Q ↔ (inR a ∧ inR b) ∧ ((b < a → wp t mi x L st σ Q) ∧ (¬ b < a → wp t mi (pc + 3) L st σ Q)) := (wp_ss h rfl).trans ite2_and
theorem w_icmp_le {o l x} {e2 : Nat × (Nat × Int)} {a b : Int} (h : cd mi pc = some (.if_icmp .le o, l, x, e2)) : wp t mi pc L (vI b :: vI a :: st) σ Q ↔ (inR a ∧ inR b) ∧ ((b < a → wp t mi (pc + 3) L st σ Q) ∧ (¬ b < a → wp t mi x L st σ Q)) := (wp_ss h rfl).trans ite2_and
theorem w_dropR {a b c : Prop} (hb : b) : ((a ∧ b) ∧ c) ↔ (a ∧ c) := ⟨fun g => ⟨g.1.1, g.2⟩, fun g => ⟨⟨g.1, hb⟩, g.2⟩⟩
theorem w_icond_eq {o l x} {e2 : Nat × (Nat × Int)} {a : Int} (h : cd mi pc = some (.ifCond .eq o, l, x, e2)) : wp t mi pc L (vI a :: st) σ Q ↔ inR a ∧ ((a = 0 → wp t mi x L st σ Q) ∧ (¬ a = 0 → wp t mi (pc + 3) L st σ Q)) := (wp_ss h rfl).trans ite2_and
theorem w_icond_ne {o l x} {e2 : Nat × (Nat × Int)} {a : Int} (h : cd mi pc = some (.ifCond .ne o, l, x, e2)) : wp t mi pc L (vI a :: st) σ Q ↔ inR a ∧ ((a = 0 → wp t mi (pc + 3) L st σ Q) ∧ (¬ a = 0 → wp t mi x L st σ Q)) := (wp_ss h rfl).trans ite2_and
theorem w_icond_lt {o l x} {e2 : Nat × (Nat × Int)} {a : Int} (h : cd mi pc = some (.ifCond .lt o, l, x, e2)) : wp t mi pc L (vI a :: st) σ Q ↔ inR a ∧ ((a < 0 → wp t mi x L st σ Q) ∧ (¬ a < 0 → wp t mi (pc + 3) L st σ Q)) := (wp_ss h rfl).trans ite2_and
theorem w_icond_ge {o l x} {e2 : Nat × (Nat × Int)} {a : Int} (h : cd mi pc = some (.ifCond .ge o, l, x, e2)) : wp t mi pc L (vI a :: st) σ Q ↔ inR a ∧ ((a < 0 → wp t mi (pc + 3) L st σ Q) ∧ (¬ a < 0 → wp t mi x L st σ Q)) := (wp_ss h rfl).trans ite2_and
theorem w_icond_gt {o l x} {e2 : Nat × (Nat × Int)} {a : Int} (h : cd mi pc = some (.ifCond .gt o, l, x, e2)) : wp t mi pc L (vI a :: st) σ Q ↔ inR a ∧ ((0 < a → wp t mi x L st σ Q) ∧ (¬ 0 < a → wp t mi (pc + 3) L st σ Q)) := (wp_ss h rfl).trans ite2_and
theorem w_icond_le {o l x} {e2 : Nat × (Nat × Int)} {a : Int} (h : cd mi pc = some (.ifCond .le o, l, x, e2)) : wp t mi pc L (vI a :: st) σ Q ↔ inR a ∧ ((0 < a → wp t mi (pc + 3) L st σ Q) ∧ (¬ 0 < a → wp t mi x L st σ Q)) := (wp_ss h rfl).trans ite2_and
theorem w_ts {d lo hi offs} {a : Int} (h : cd mi pc = some (.tableswitch d lo hi offs, en)) : wp t mi pc L (vI a :: st) σ Q ↔ inR a ∧ ((lo ≤ a ∧ a ≤ hi → wp t mi ((pc : Int) + offs.getD (a - lo).toNat 0).toNat L st σ Q) ∧ (¬ (lo ≤ a ∧ a ≤ hi) → wp t mi ((pc : Int) + d).toNat L st σ Q)) := (wp_ss h rfl).trans ite2_and
theorem w_getI {i l k ci} {e2 : Nat × Int} {o : Nat} (h : cd mi pc = some (.getfield i, l, k, ci, e2)) (hc : lc o = ci) (hk : Nat.beq (fk ci k) 2 = false) : wp t mi pc L (vR o :: st) σ Q ↔ wp t mi (pc + 3) L (vI (gI σ o (k : Nat)) :: st) σ Q := by
  rw [wp_ss h rfl]
  show (if lc o = ci then (if fk ci k = 2 then _ else _) else False) ↔ _
  rw [if_pos hc, if_neg (fun e => by rw [e] at hk; cases hk)]
theorem w_getR {i l k ci} {e2 : Nat × Int} {o : Nat} (r : Nat) (h : cd mi pc = some (.getfield i, l, k, ci, e2)) (hc : lc o = ci) (hk : fk ci k = 2) (hr : rf o k = r) : wp t mi pc L (vR o :: st) σ Q ↔ wp t mi (pc + 3) L (vR r :: st) σ Q := by
  rw [wp_ss h rfl]
  show (if lc o = ci then (if fk ci k = 2 then wp t mi (pc + 3) L (vR (rf o k) :: st) σ Q else _) else False) ↔ _
  rw [if_pos hc, if_pos hk, hr]
theorem w_putI {i l k ci} {e2 : Nat × Int} {o : Nat} {a : Int} (h : cd mi pc = some (.putfield i, l, k, ci, e2)) (hc : lc o = ci) (hk : fk ci k = 0) : wp t mi pc L (vI a :: vR o :: st) σ Q ↔ wp t mi (pc + 3) L st (sI σ o (k : Nat) a) Q := by
  rw [wp_ss h rfl]
  show (if lc o = ci ∧ (fk ci k = 0 ∨ fk ci k = 1 ∧ (a = 0 ∨ a = 1)) then _ else False) ↔ _
  rw [if_pos ⟨hc, Or.inl hk⟩]
theorem w_putZ {i l k ci} {e2 : Nat × Int} {o : Nat} {a : Int} (h : cd mi pc = some (.putfield i, l, k, ci, e2)) (hc : lc o = ci) (hk : fk ci k = 1) : wp t mi pc L (vI a :: vR o :: st) σ Q ↔ (a = 0 ∨ a = 1) ∧ wp t mi (pc + 3) L st (sI σ o (k : Nat) a) Q := by
  rw [wp_ss h rfl]
  show (if lc o = ci ∧ (fk ci k = 0 ∨ fk ci k = 1 ∧ (a = 0 ∨ a = 1)) then _ else False) ↔ _
  rw [ite_and, hk, hc]
  simp
theorem w_putZ0 {i l k ci} {e2 : Nat × Int} {o : Nat} (h : cd mi pc = some (.putfield i, l, k, ci, e2)) (hc : lc o = ci) (hk : fk ci k = 1) : wp t mi pc L (vI 0 :: vR o :: st) σ Q ↔ wp t mi (pc + 3) L st (sI σ o (k : Nat) 0) Q := (w_putZ h hc hk).trans ⟨fun g => g.2, fun g => ⟨Or.inl rfl, g⟩⟩
theorem w_putZ1 {i l k ci} {e2 : Nat × Int} {o : Nat} (h : cd mi pc = some (.putfield i, l, k, ci, e2)) (hc : lc o = ci) (hk : fk ci k = 1) : wp t mi pc L (vI 1 :: vR o :: st) σ Q ↔ wp t mi (pc + 3) L st (sI σ o (k : Nat) 1) Q := (w_putZ h hc hk).trans ⟨fun g => g.2, fun g => ⟨Or.inr rfl, g⟩⟩
theorem w_iaload {o : Nat} {i : Int} (h : cd mi pc = some (.iaload, en)) : wp t mi pc L (vI i :: vR o :: st) σ Q ↔ (lc o = 101 ∧ 0 ≤ i ∧ i < ln o) ∧ wp t mi (pc + 1) L (vI (gI σ o i) :: st) σ Q := (wp_ss h rfl).trans ite_and
theorem w_laload {l} {e2 : Nat × (Nat × Int)} {o : Nat} {i : Int} (h : cd mi pc = some (.laload, l, 0, e2)) : wp t mi pc L (vI i :: vR o :: st) σ Q ↔ (lc o = 102 ∧ 0 ≤ i ∧ i < ln o) ∧ wp t mi (pc + 1) L (vL (gL σ o i) :: st) σ Q := (wp_ss h rfl).trans ite_and
theorem w_xlaload {l} {e2 : Nat × (Nat × Int)} {i : Int} (h : cd mi pc = some (.laload, l, 1, e2)) : wp t mi pc L (vI i :: vR 53 :: st) σ Q ↔ (0 ≤ i ∧ i < gI σ 53 (-1)) ∧ wp t mi (pc + 1) L (vL (gL σ 53 i) :: st) σ Q := (wp_ss h rfl).trans (by
  show (if lc 53 = 105 ∧ 0 ≤ i ∧ i < gI σ 53 (-1) then _ else False) ↔ _
  rw [ite_and, lc_53]; simp)
theorem w_iastore {o : Nat} {i a : Int} (h : cd mi pc = some (.iastore, en)) : wp t mi pc L (vI a :: vI i :: vR o :: st) σ Q ↔ (lc o = 101 ∧ 0 ≤ i ∧ i < ln o) ∧ wp t mi (pc + 1) L st (sI σ o i a) Q := (wp_ss h rfl).trans ite_and
theorem w_lastore {l} {e2 : Nat × (Nat × Int)} {o : Nat} {i : Int} {a : BitVec 64} (h : cd mi pc = some (.lastore, l, 0, e2)) : wp t mi pc L (vL a :: vI i :: vR o :: st) σ Q ↔ (lc o = 102 ∧ 0 ≤ i ∧ i < ln o) ∧ wp t mi (pc + 1) L st (sL σ o i a) Q := (wp_ss h rfl).trans ite_and
theorem w_xlastore {l} {e2 : Nat × (Nat × Int)} {i : Int} {a : BitVec 64} (h : cd mi pc = some (.lastore, l, 1, e2)) : wp t mi pc L (vL a :: vI i :: vR 53 :: st) σ Q ↔ (0 ≤ i ∧ i < gI σ 53 (-1)) ∧ wp t mi (pc + 1) L st (sL σ 53 i a) Q := (wp_ss h rfl).trans (by
  show (if lc 53 = 105 ∧ 0 ≤ i ∧ i < gI σ 53 (-1) then _ else False) ↔ _
  rw [ite_and, lc_53]; simp)
theorem w_ldc {i l w ww} {z : Int} (h : cd mi pc = some (.ldc i, l, 1, w, ww, z)) : wp t mi pc L st σ Q ↔ wp t mi (pc + 2) L (vI z :: st) σ Q := wp_ss h rfl
theorem w_dconst1 (h : cd mi pc = some (.dconst 1, en)) : wp t mi pc L st σ Q ↔ wp t mi (pc + 1) L (vD 0x3ff0000000000000 :: st) σ Q := wp_ss h rfl
theorem w_lmul {a b : BitVec 64} (h : cd mi pc = some (.lmul, en)) : wp t mi pc L (vL b :: vL a :: st) σ Q ↔ wp t mi (pc + 1) L (vL (a * b) :: st) σ Q := wp_ss h rfl
theorem w_dload_n {j : Fin 4} {v : UInt64} (h : cd mi pc = some (.dload_n j, en)) (hv : lget L j.val = some (vD v)) : wp t mi pc L st σ Q ↔ wp t mi (pc + 1) L (vD v :: st) σ Q := (wp_ss h rfl).trans (by
  show (eO (lget L j.val) _ _) ↔ _
  rw [hv]; exact Iff.rfl)
theorem w_d2l {i l} {e2 : Nat × (Nat × Int)} {d : UInt64} (h : cd mi pc = some (.invokestatic i, l, 1000, e2)) (h8 : Nat.ble (wt st) 8 = true) : wp t mi pc L (vD d :: st) σ Q ↔ wp t mi (pc + 3) L (vL d.toBitVec :: st) σ Q := by
  rw [wp_iff h]
  show (∃ n r σ', (if wt st ≤ 8 then ex n t mi (pc + 3) L (vL d.toBitVec :: st) σ else none) = some (r, σ') ∧ Q r σ') ↔ _
  simp only [if_pos (Nat.le_of_ble_eq_true h8)]
  exact Iff.rfl
theorem w_l2d {i l} {e2 : Nat × (Nat × Int)} {b : BitVec 64} (h : cd mi pc = some (.invokestatic i, l, 1001, e2)) (h8 : Nat.ble (wt st) 8 = true) : wp t mi pc L (vL b :: st) σ Q ↔ n64 (UInt64.ofBitVec b) ∧ wp t mi (pc + 3) L (vD (UInt64.ofBitVec b) :: st) σ Q := by
  rw [wp_iff h]
  show (∃ n r σ', (if n64 (UInt64.ofBitVec b) ∧ wt st ≤ 8 then ex n t mi (pc + 3) L (vD (UInt64.ofBitVec b) :: st) σ else none) = some (r, σ') ∧ Q r σ') ↔ _
  by_cases q : n64 (UInt64.ofBitVec b)
  · simp only [if_pos (show n64 (UInt64.ofBitVec b) ∧ wt st ≤ 8 from ⟨q, Nat.le_of_ble_eq_true h8⟩)]
    exact ⟨fun g => ⟨q, g⟩, fun g => g.2⟩
  · simp only [if_neg (show ¬ (n64 (UInt64.ofBitVec b) ∧ wt st ≤ 8) from fun k => q k.1)]
    constructor
    · rintro ⟨_, _, _, h1, _⟩; cases h1
    · rintro ⟨h1, _⟩; exact absurd h1 q
theorem w_lmin {i l} {e2 : Nat × (Nat × Int)} {a b : BitVec 64} (h : cd mi pc = some (.invokestatic i, l, 1002, e2)) (h8 : Nat.ble (wt st) 8 = true) : wp t mi pc L (vL b :: vL a :: st) σ Q ↔ wp t mi (pc + 3) L (vL (lMin a b) :: st) σ Q := by
  rw [wp_iff h]
  show (∃ n r σ', (if wt st ≤ 8 then ex n t mi (pc + 3) L (vL (lMin a b) :: st) σ else none) = some (r, σ') ∧ Q r σ') ↔ _
  simp only [if_pos (Nat.le_of_ble_eq_true h8)]
  exact Iff.rfl
theorem w_dropK {a b c : Prop} {n : Nat} {k : Int} {d : Int} (ha : a) (hn : (n : Int) = k) : ((a ∧ b ∧ d < (n : Int)) ∧ c) ↔ ((b ∧ d < k) ∧ c) := by subst hn; exact ⟨fun g => ⟨g.1.2, g.2⟩, fun g => ⟨⟨ha, g.1⟩, g.2⟩⟩
theorem w_alen {o : Nat} (h : cd mi pc = some (.arraylength, en)) : wp t mi pc L (vR o :: st) σ Q ↔ (lc o = 101 ∨ lc o = 102) ∧ wp t mi (pc + 1) L (vI (ln o) :: st) σ Q := (wp_ss h rfl).trans ite_and
theorem w_iret {l} {e2 : Nat × (Nat × Int)} {z : Int} (h : cd mi pc = some (.ireturn, l, 0, e2)) : wp t mi pc L [vI z] σ Q ↔ Q (.inl (some (vI z))) σ := (wp_ireturn (st := []) h).trans ⟨fun g => g.2, fun g => ⟨fun e => (by cases e), g⟩⟩
theorem w_zret {l} {e2 : Nat × (Nat × Int)} {z : Int} (h : cd mi pc = some (.ireturn, l, 1, e2)) : wp t mi pc L [vI z] σ Q ↔ (z = 0 ∨ z = 1) ∧ Q (.inl (some (vI z))) σ := (wp_ireturn (st := []) h).trans ⟨fun g => ⟨g.1 rfl, g.2⟩, fun g => ⟨fun _ => g.1, g.2⟩⟩
theorem w_zret0 {l} {e2 : Nat × (Nat × Int)} (h : cd mi pc = some (.ireturn, l, 1, e2)) : wp t mi pc L [vI 0] σ Q ↔ Q (.inl (some (vI 0))) σ := (w_zret h).trans ⟨fun g => g.2, fun g => ⟨Or.inl rfl, g⟩⟩
theorem w_zret1 {l} {e2 : Nat × (Nat × Int)} (h : cd mi pc = some (.ireturn, l, 1, e2)) : wp t mi pc L [vI 1] σ Q ↔ Q (.inl (some (vI 1))) σ := (w_zret h).trans ⟨fun g => g.2, fun g => ⟨Or.inr rfl, g⟩⟩
theorem w_throw {i l x} {e2 : Nat × Int} (h : cd mi pc = some (.new i, l, x, 1, e2)) : wp t mi pc L [] σ Q ↔ 1 ≤ t ∧ Q (.inr x) σ := by
  cases t with
  | zero =>
    constructor
    · rintro ⟨n, r, σ', h1, -⟩
      cases n with
      | zero => cases h1
      | succ n =>
        rw [ex_succ, h] at h1
        have h1 : (if (1 : Nat) = 1 ∧ 1 ≤ 0 ∧ ([] : List AV) = [] then some ((.inr x, σ) : Res × St) else none) = some (r, σ') := h1
        rw [if_neg (fun g => by omega)] at h1
        cases h1
    · rintro ⟨h1, -⟩; omega
  | succ t => exact (wp_throw h).trans ⟨fun g => ⟨by omega, g⟩, fun g => g.2⟩
theorem w_calls0 {i l w} (x n : Nat) (h : cd mi pc = some (.invokestatic i, l, x, n, w, 0)) (h1 : Nat.ble n st.length = true) (h2 : Nat.ble (wt (st.drop n)) 8 = true) (h3 : Nat.ble (wt (st.take n)) (mL x) = true) (hh : ∀ X, hd mi pc X = none) (hx : Nat.blt x 1000 = true) :
    wp t mi pc L st σ Q ↔ Call 0 x (st.take n).reverse σ (fun r σ' => aft r (fun vs => wp t mi (pc + 3) L (vs ++ st.drop n) σ' Q) (fun X => Q (.inr X) σ')) := by
  rw [wp_calls h hx]
  simp only [hh]
  exact ⟨fun g => g.2, fun g => ⟨⟨Nat.le_of_ble_eq_true h1, Nat.le_of_ble_eq_true h2, Nat.le_of_ble_eq_true h3, Nat.zero_le _⟩, g⟩⟩
theorem w_callv0 {i l w} (x n : Nat) (h : cd mi pc = some (.invokevirtual i, l, x, n, w, 0)) (h0 : rcv (st.take n) w = true) (h1 : Nat.ble n st.length = true) (h2 : Nat.ble (wt (st.drop n)) 8 = true) (h3 : Nat.ble (wt (st.take n)) (mL x) = true) (hh : ∀ X, hd mi pc X = none) :
    wp t mi pc L st σ Q ↔ Call 0 x (st.take n).reverse σ (fun r σ' => aft r (fun vs => wp t mi (pc + 3) L (vs ++ st.drop n) σ' Q) (fun X => Q (.inr X) σ')) := by
  rw [wp_callv h]
  simp only [hh]
  exact ⟨fun g => g.2.2, fun g => ⟨h0, ⟨Nat.le_of_ble_eq_true h1, Nat.le_of_ble_eq_true h2, Nat.le_of_ble_eq_true h3, Nat.zero_le _⟩, g⟩⟩
theorem w_callsB {i l w} {z : Int} (x n B : Nat) (h : cd mi pc = some (.invokestatic i, l, x, n, w, z)) (hz : z.toNat = B) (h1 : Nat.ble n st.length = true) (h2 : Nat.ble (wt (st.drop n)) 8 = true) (h3 : Nat.ble (wt (st.take n)) (mL x) = true) (hx : Nat.blt x 1000 = true) :
    wp t mi pc L st σ Q ↔ B ≤ t ∧ Call B x (st.take n).reverse σ (fun r σ' => aft r (fun vs => wp (t - B) mi (pc + 3) L (vs ++ st.drop n) σ' Q) (fun X => xgo (hd mi pc X) (fun q => wp (t - B) mi q.1 (lkill L q.2) [] σ' Q) (Q (.inr X) σ'))) := by
  rw [wp_calls h hx, hz]
  exact ⟨fun g => ⟨g.1.2.2.2, g.2⟩, fun g => ⟨⟨Nat.le_of_ble_eq_true h1, Nat.le_of_ble_eq_true h2, Nat.le_of_ble_eq_true h3, g.1⟩, g.2⟩⟩
theorem w_callvB {i l w} {z : Int} (x n B : Nat) (h : cd mi pc = some (.invokevirtual i, l, x, n, w, z)) (hz : z.toNat = B) (h0 : rcv (st.take n) w = true) (h1 : Nat.ble n st.length = true) (h2 : Nat.ble (wt (st.drop n)) 8 = true) (h3 : Nat.ble (wt (st.take n)) (mL x) = true) :
    wp t mi pc L st σ Q ↔ B ≤ t ∧ Call B x (st.take n).reverse σ (fun r σ' => aft r (fun vs => wp (t - B) mi (pc + 3) L (vs ++ st.drop n) σ' Q) (fun X => xgo (hd mi pc X) (fun q => wp (t - B) mi q.1 (lkill L q.2) [] σ' Q) (Q (.inr X) σ'))) := by
  rw [wp_callv h, hz]
  exact ⟨fun g => ⟨g.2.1.2.2.2, g.2.2⟩, fun g => ⟨h0, ⟨Nat.le_of_ble_eq_true h1, Nat.le_of_ble_eq_true h2, Nat.le_of_ble_eq_true h3, g.1⟩, g.2⟩⟩
end XR
theorem aft_l {v : Option AV} {F : List AV → Prop} {G : Nat → Prop} : aft (.inl v) F G = F (optL v) := rfl
theorem aft_r {X : Nat} {F : List AV → Prop} {G : Nat → Prop} : aft (.inr X) F G = G X := rfl
theorem optL_s {v : AV} : optL (some v) = [v] := rfl
theorem optL_n : optL none = [] := rfl
theorem xgo_n {F : Nat × Nat → Prop} {G : Prop} : xgo none F G = G := rfl
theorem xgo_s {q : Nat × Nat} {F : Nat × Nat → Prop} {G : Prop} : xgo (some q) F G = F q := rfl
theorem lCmp_eq {a b : BitVec 64} : (lCmp a b = 0) ↔ a = b := by
  unfold lCmp
  by_cases h : a = b
  · simp [h]
  · simp only [h, if_false, iff_false]
    cases b.slt a <;> simp
theorem lCmp_in {a b : BitVec 64} : inR (lCmp a b) := by
  unfold lCmp
  split
  · decide
  · split <;> decide
theorem w_true {a b : Prop} (ha : a) : (a ∧ b) ↔ b := ⟨fun g => g.2, fun g => ⟨ha, g⟩⟩
theorem w_tsw {t mi pc d2 : Nat} {d : Int} {L : Lo} {st : List AV} {σ : St} {Q : Res → St → Prop} {a : Int} {offs : Array Int} (lo hi : Int) (o2 : List Nat) (hd : ((pc : Int) + d).toNat = d2) (ho : (List.range ((hi - lo).toNat + 1)).all (fun n => ((pc : Int) + offs.getD n 0).toNat == o2.getD n 0) = true) :
    ((lo ≤ a ∧ a ≤ hi → wp t mi ((pc : Int) + offs.getD (a - lo).toNat 0).toNat L st σ Q) ∧ (¬ (lo ≤ a ∧ a ≤ hi) → wp t mi ((pc : Int) + d).toNat L st σ Q)) ↔ ((lo ≤ a ∧ a ≤ hi → wp t mi (o2.getD (a - lo).toNat 0) L st σ Q) ∧ (¬ (lo ≤ a ∧ a ≤ hi) → wp t mi d2 L st σ Q)) := by
  rw [hd]
  have key : ∀ h : lo ≤ a ∧ a ≤ hi, ((pc : Int) + offs.getD (a - lo).toNat 0).toNat = o2.getD (a - lo).toNat 0 := fun h => by
    have := List.all_eq_true.mp ho (a - lo).toNat (List.mem_range.mpr (by omega))
    simpa using this
  exact ⟨fun g => ⟨fun h => by rw [← key h]; exact g.1 h, g.2⟩, fun g => ⟨fun h => by rw [key h]; exact g.1 h, g.2⟩⟩
