/-! THE PURE MACHINE: ints are integers (a cell holds them modulo 2^32), longs bit vectors, a reference the number of its cell in the layout -/
abbrev AV : Type := Int ⊕ (BitVec 64 ⊕ (UInt64 ⊕ (UInt32 ⊕ Nat)))
def vI (z : Int) : AV := .inl z
def vL (b : BitVec 64) : AV := .inr (.inl b)
def vD (d : UInt64) : AV := .inr (.inr (.inl d))
def vF (d : UInt32) : AV := .inr (.inr (.inr (.inl d)))
def vR (i : Nat) : AV := .inr (.inr (.inr (.inr i)))
abbrev Lo : Type := List (Option AV)
abbrev St : Type := (Nat → Int → Int) × ((Nat → Int → BitVec 64) × (Nat → Int → UInt64))
abbrev Res : Type := Option AV ⊕ Nat
def gI (σ : St) (c : Nat) (i : Int) : Int := σ.1 c i
def gL (σ : St) (c : Nat) (i : Int) : BitVec 64 := σ.2.1 c i
def gD (σ : St) (c : Nat) (i : Int) : UInt64 := σ.2.2 c i
def sI (σ : St) (c : Nat) (i : Int) (v : Int) : St := (fun d j => if d = c ∧ j = i then v else σ.1 d j, σ.2)
def sL (σ : St) (c : Nat) (i : Int) (v : BitVec 64) : St := (σ.1, (fun d j => if d = c ∧ j = i then v else σ.2.1 d j, σ.2.2))
def sD (σ : St) (c : Nat) (i : Int) (v : UInt64) : St := (σ.1, (σ.2.1, fun d j => if d = c ∧ j = i then v else σ.2.2 d j))
def iAnd (a b : Int) : Int := (BitVec.ofInt 32 a &&& BitVec.ofInt 32 b).toInt
def iOr (a b : Int) : Int := (BitVec.ofInt 32 a ||| BitVec.ofInt 32 b).toInt
def sh6 (z : Int) : Nat := (z % 64).toNat
def lCmp (a b : BitVec 64) : Int := if a = b then 0 else if b.slt a then 1 else -1
def lMin (a b : BitVec 64) : BitVec 64 := if b.slt a = true then b else a
abbrev n32 (r : UInt32) : Prop := r &&& 0x7fffffff ≤ 0x7f800000
abbrev n64 (r : UInt64) : Prop := r &&& 0x7fffffffffffffff ≤ 0x7ff0000000000000
def dbl (z : Int) : UInt64 := FP.i2d (Int32.ofInt z)
def flt (z : Int) : UInt32 := FP.i2f (Int32.ofInt z)
/-- eliminators: go on with what is there, or fail -/
def eI {α : Sort _} (v : AV) (k : Int → α) (f : α) : α := match v with | .inl z => k z | _ => f
def eL {α : Sort _} (v : AV) (k : BitVec 64 → α) (f : α) : α := match v with | .inr (.inl b) => k b | _ => f
def eD {α : Sort _} (v : AV) (k : UInt64 → α) (f : α) : α := match v with | .inr (.inr (.inl b)) => k b | _ => f
def eF {α : Sort _} (v : AV) (k : UInt32 → α) (f : α) : α := match v with | .inr (.inr (.inr (.inl b))) => k b | _ => f
def eR {α : Sort _} (v : AV) (k : Nat → α) (f : α) : α := match v with | .inr (.inr (.inr (.inr b))) => k b | _ => f
def eO {α : Sort _} (o : Option AV) (k : AV → α) (f : α) : α := match o with | some v => k v | none => f
def eP {α : Sort _} (st : List AV) (k : AV → List AV → α) (f : α) : α := match st with | v :: r => k v r | [] => f
def eN {α : Sort _} (st : List AV) (k f : α) : α := match st with | [] => k | _ :: _ => f
def c2 (v : AV) : Bool := match v with | .inr (.inl _) => true | .inr (.inr (.inl _)) => true | _ => false
def lget : Lo → Nat → Option AV
  | [], _ => none
  | a :: _, 0 => a
  | _ :: r, n + 1 => lget r n
def ldrop (r : Lo) : Lo := match r with | [] => [] | _ :: q => none :: q
def lhead (a : Option AV) : Option AV := match a with | some w => (if c2 w then none else a) | none => none
def lset : Lo → Nat → AV → Lo
  | [], _, _ => []
  | _ :: r, 0, v => some v :: (if c2 v then ldrop r else r)
  | a :: r, n + 1, v => (if n = 0 then lhead a else a) :: lset r n v
def lkill : Lo → Nat → Lo
  | [], _ => []
  | _ :: r, 0 => none :: r
  | a :: r, n + 1 => (if n = 0 then lhead a else a) :: lkill r n
def entL : List AV → Lo
  | [] => []
  | v :: r => some v :: (if c2 v then none :: entL r else entL r)
def entry (n : Nat) (vs : List AV) : Lo := entL vs ++ List.replicate (n - (entL vs).length) none
def wt (st : List AV) : Nat := (st.map (fun v => if c2 v then 2 else 1)).sum
abbrev nR (z : Int) : Prop := 0 ≤ z ∧ z < 2147483648
/-- an instruction's abstract step; instructions that call, return or throw are not here -/
def ss {α : Sort _} (en : Ent) (pc : Nat) (L : Lo) (st : List AV) (σ : St) (k : Nat → Lo → List AV → St → α) (f : α) : α :=
  match en.1 with
  | .iconst n => k (pc + 1) L (vI n :: st) σ
  | .bipush n => k (pc + 2) L (vI n :: st) σ
  | .sipush n => k (pc + 3) L (vI n :: st) σ
  | .lconst n => k (pc + 1) L (vL (BitVec.ofNat 64 n.val) :: st) σ
  | .fconst n => if n.val = 0 then k (pc + 1) L (vF 0 :: st) σ else f
  | .dconst n => if n.val = 0 then k (pc + 1) L (vD 0 :: st) σ else k (pc + 1) L (vD 0x3ff0000000000000 :: st) σ
  | .ldc _ => if en.2.2.1 = 1 then k (pc + 2) L (vI en.2.2.2.2.2 :: st) σ else f
  | .ldc2_w _ => k (pc + 3) L (vL (BitVec.ofInt 64 en.2.2.2.2.2) :: st) σ
  | .iload_n j => eO (lget L j.val) (fun v => eI v (fun z => k (pc + 1) L (vI z :: st) σ) f) f
  | .iload j => eO (lget L j) (fun v => eI v (fun z => k (pc + 2) L (vI z :: st) σ) f) f
  | .lload_n j => eO (lget L j.val) (fun v => eL v (fun z => k (pc + 1) L (vL z :: st) σ) f) f
  | .lload j => eO (lget L j) (fun v => eL v (fun z => k (pc + 2) L (vL z :: st) σ) f) f
  | .dload_n j => eO (lget L j.val) (fun v => eD v (fun z => k (pc + 1) L (vD z :: st) σ) f) f
  | .dload j => eO (lget L j) (fun v => eD v (fun z => k (pc + 2) L (vD z :: st) σ) f) f
  | .fload j => eO (lget L j) (fun v => eF v (fun z => k (pc + 2) L (vF z :: st) σ) f) f
  | .aload_n j => eO (lget L j.val) (fun v => eR v (fun z => k (pc + 1) L (vR z :: st) σ) f) f
  | .aload j => eO (lget L j) (fun v => eR v (fun z => k (pc + 2) L (vR z :: st) σ) f) f
  | .istore_n j => eP st (fun v r => eI v (fun z => k (pc + 1) (lset L j.val (vI z)) r σ) f) f
  | .istore j => eP st (fun v r => eI v (fun z => k (pc + 2) (lset L j (vI z)) r σ) f) f
  | .lstore_n j => eP st (fun v r => eL v (fun z => k (pc + 1) (lset L j.val (vL z)) r σ) f) f
  | .lstore j => eP st (fun v r => eL v (fun z => k (pc + 2) (lset L j (vL z)) r σ) f) f
  | .dstore j => eP st (fun v r => eD v (fun z => k (pc + 2) (lset L j (vD z)) r σ) f) f
  | .fstore j => eP st (fun v r => eF v (fun z => k (pc + 2) (lset L j (vF z)) r σ) f) f
  | .astore_n j => eP st (fun v r => eR v (fun z => k (pc + 1) (lset L j.val (vR z)) r σ) f) f
  | .astore j => eP st (fun v r => eR v (fun z => k (pc + 2) (lset L j (vR z)) r σ) f) f
  | .iinc j n => eO (lget L j) (fun v => eI v (fun z => k (pc + 3) (lset L j (vI (z + n))) st σ) f) f
  | .dup => eP st (fun v r => if c2 v = false then k (pc + 1) L (v :: v :: r) σ else f) f
  | .dup2 => eP st (fun v r => eP r (fun w r2 => if c2 v = false ∧ c2 w = false then k (pc + 1) L (v :: w :: v :: w :: r2) σ else f) f) f
  | .pop => eP st (fun v r => if c2 v = false then k (pc + 1) L r σ else f) f
  | .pop2 => eP st (fun v r => if c2 v = true then k (pc + 1) L r σ else f) f
  | .iadd => eP st (fun v r => eP r (fun w r2 => eI v (fun b => eI w (fun a => k (pc + 1) L (vI (a + b) :: r2) σ) f) f) f) f
  | .isub => eP st (fun v r => eP r (fun w r2 => eI v (fun b => eI w (fun a => k (pc + 1) L (vI (a - b) :: r2) σ) f) f) f) f
  | .imul => eP st (fun v r => eP r (fun w r2 => eI v (fun b => eI w (fun a => k (pc + 1) L (vI (a * b) :: r2) σ) f) f) f) f
  | .idiv => eP st (fun v r => eP r (fun w r2 => eI v (fun b => eI w (fun a => if nR a ∧ nR b ∧ b ≠ 0 then k (pc + 1) L (vI (a / b) :: r2) σ else f) f) f) f) f
  | .irem => eP st (fun v r => eP r (fun w r2 => eI v (fun b => eI w (fun a => if nR a ∧ nR b ∧ b ≠ 0 then k (pc + 1) L (vI (a % b) :: r2) σ else f) f) f) f) f
  | .ishl => eP st (fun v r => eP r (fun w r2 => eI v (fun b => eI w (fun a => if 0 ≤ b ∧ b < 32 then k (pc + 1) L (vI (a * 2 ^ b.toNat) :: r2) σ else f) f) f) f) f
  | .ishr => eP st (fun v r => eP r (fun w r2 => eI v (fun b => eI w (fun a => if inR a ∧ 0 ≤ b ∧ b < 32 then k (pc + 1) L (vI (a / 2 ^ b.toNat) :: r2) σ else f) f) f) f) f
  | .iand => eP st (fun v r => eP r (fun w r2 => eI v (fun b => eI w (fun a => k (pc + 1) L (vI (iAnd a b) :: r2) σ) f) f) f) f
  | .ior => eP st (fun v r => eP r (fun w r2 => eI v (fun b => eI w (fun a => k (pc + 1) L (vI (iOr a b) :: r2) σ) f) f) f) f
  | .ladd => eP st (fun v r => eP r (fun w r2 => eL v (fun b => eL w (fun a => k (pc + 1) L (vL (a + b) :: r2) σ) f) f) f) f
  | .lsub => eP st (fun v r => eP r (fun w r2 => eL v (fun b => eL w (fun a => k (pc + 1) L (vL (a - b) :: r2) σ) f) f) f) f
  | .lmul => eP st (fun v r => eP r (fun w r2 => eL v (fun b => eL w (fun a => k (pc + 1) L (vL (a * b) :: r2) σ) f) f) f) f
  | .land => eP st (fun v r => eP r (fun w r2 => eL v (fun b => eL w (fun a => k (pc + 1) L (vL (a &&& b) :: r2) σ) f) f) f) f
  | .lor => eP st (fun v r => eP r (fun w r2 => eL v (fun b => eL w (fun a => k (pc + 1) L (vL (a ||| b) :: r2) σ) f) f) f) f
  | .lxor => eP st (fun v r => eP r (fun w r2 => eL v (fun b => eL w (fun a => k (pc + 1) L (vL (a ^^^ b) :: r2) σ) f) f) f) f
  | .lshl => eP st (fun v r => eP r (fun w r2 => eI v (fun b => eL w (fun a => k (pc + 1) L (vL (a <<< sh6 b) :: r2) σ) f) f) f) f
  | .lushr => eP st (fun v r => eP r (fun w r2 => eI v (fun b => eL w (fun a => k (pc + 1) L (vL (a >>> sh6 b) :: r2) σ) f) f) f) f
  | .lshr => eP st (fun v r => eP r (fun w r2 => eI v (fun b => eL w (fun a => k (pc + 1) L (vL (a.sshiftRight (sh6 b)) :: r2) σ) f) f) f) f
  | .lcmp => eP st (fun v r => eP r (fun w r2 => eL v (fun b => eL w (fun a => k (pc + 1) L (vI (lCmp a b) :: r2) σ) f) f) f) f
  | .dcmp op => eP st (fun v r => eP r (fun w r2 => eD v (fun b => eD w (fun a => k (pc + 1) L (vI (Op.cmpValue (FP.dcmp a b) op).toInt :: r2) σ) f) f) f) f
  | .ddiv => eP st (fun v r => eP r (fun w r2 => eD v (fun b => eD w (fun a => if n64 (FP.ddiv a b) then k (pc + 1) L (vD (FP.ddiv a b) :: r2) σ else f) f) f) f) f
  | .fdiv => eP st (fun v r => eP r (fun w r2 => eF v (fun b => eF w (fun a => if n32 (FP.fdiv a b) then k (pc + 1) L (vF (FP.fdiv a b) :: r2) σ else f) f) f) f) f
  | .i2l => eP st (fun v r => eI v (fun a => if inR a then k (pc + 1) L (vL (BitVec.ofInt 64 a) :: r) σ else f) f) f
  | .l2i => eP st (fun v r => eL v (fun a => k (pc + 1) L (vI a.toInt :: r) σ) f) f
  | .i2d => eP st (fun v r => eI v (fun a => k (pc + 1) L (vD (dbl a) :: r) σ) f) f
  | .i2f => eP st (fun v r => eI v (fun a => k (pc + 1) L (vF (flt a) :: r) σ) f) f
  | .f2d => eP st (fun v r => eF v (fun a => if n64 (FP.f2d a) then k (pc + 1) L (vD (FP.f2d a) :: r) σ else f) f) f
  | .goto _ => k en.2.2.1 L st σ
  | .if_icmp .eq _ => eP st (fun v r => eP r (fun w r2 => eI v (fun b => eI w (fun a => if inR a ∧ inR b then (if a = b then k en.2.2.1 L r2 σ else k (pc + 3) L r2 σ) else f) f) f) f) f
  | .if_icmp .ne _ => eP st (fun v r => eP r (fun w r2 => eI v (fun b => eI w (fun a => if inR a ∧ inR b then (if a = b then k (pc + 3) L r2 σ else k en.2.2.1 L r2 σ) else f) f) f) f) f
  | .if_icmp .lt _ => eP st (fun v r => eP r (fun w r2 => eI v (fun b => eI w (fun a => if inR a ∧ inR b then (if a < b then k en.2.2.1 L r2 σ else k (pc + 3) L r2 σ) else f) f) f) f) f
  | .if_icmp .ge _ => eP st (fun v r => eP r (fun w r2 => eI v (fun b => eI w (fun a => if inR a ∧ inR b then (if a < b then k (pc + 3) L r2 σ else k en.2.2.1 L r2 σ) else f) f) f) f) f
  | .if_icmp .gt _ => eP st (fun v r => eP r (fun w r2 => eI v (fun b => eI w (fun a => if inR a ∧ inR b then (if b < a then k en.2.2.1 L r2 σ else k (pc + 3) L r2 σ) else f) f) f) f) f
  | .if_icmp .le _ => eP st (fun v r => eP r (fun w r2 => eI v (fun b => eI w (fun a => if inR a ∧ inR b then (if b < a then k (pc + 3) L r2 σ else k en.2.2.1 L r2 σ) else f) f) f) f) f
  | .ifCond .eq _ => eP st (fun v r => eI v (fun a => if inR a then (if a = 0 then k en.2.2.1 L r σ else k (pc + 3) L r σ) else f) f) f
  | .ifCond .ne _ => eP st (fun v r => eI v (fun a => if inR a then (if a = 0 then k (pc + 3) L r σ else k en.2.2.1 L r σ) else f) f) f
  | .ifCond .lt _ => eP st (fun v r => eI v (fun a => if inR a then (if a < 0 then k en.2.2.1 L r σ else k (pc + 3) L r σ) else f) f) f
  | .ifCond .ge _ => eP st (fun v r => eI v (fun a => if inR a then (if a < 0 then k (pc + 3) L r σ else k en.2.2.1 L r σ) else f) f) f
  | .ifCond .gt _ => eP st (fun v r => eI v (fun a => if inR a then (if 0 < a then k en.2.2.1 L r σ else k (pc + 3) L r σ) else f) f) f
  | .ifCond .le _ => eP st (fun v r => eI v (fun a => if inR a then (if 0 < a then k (pc + 3) L r σ else k en.2.2.1 L r σ) else f) f) f
  | .tableswitch d lo hi offs => eP st (fun v r => eI v (fun a => if inR a then (if lo ≤ a ∧ a ≤ hi then k ((pc : Int) + offs.getD (a - lo).toNat 0).toNat L r σ else k ((pc : Int) + d).toNat L r σ) else f) f) f
  | .getfield _ => eP st (fun v r => eR v (fun o => if lc o = en.2.2.2.1 then (if fk en.2.2.2.1 en.2.2.1 = 2 then k (pc + 3) L (vR (rf o en.2.2.1) :: r) σ else k (pc + 3) L (vI (gI σ o (en.2.2.1 : Nat)) :: r) σ) else f) f) f
  | .putfield _ => eP st (fun v r => eP r (fun w r2 => eI v (fun a => eR w (fun o => if lc o = en.2.2.2.1 ∧ (fk en.2.2.2.1 en.2.2.1 = 0 ∨ fk en.2.2.2.1 en.2.2.1 = 1 ∧ (a = 0 ∨ a = 1)) then k (pc + 3) L r2 (sI σ o (en.2.2.1 : Nat) a) else f) f) f) f) f
  | .iaload => eP st (fun v r => eP r (fun w r2 => eI v (fun i => eR w (fun o => if lc o = 101 ∧ 0 ≤ i ∧ i < ln o then k (pc + 1) L (vI (gI σ o i) :: r2) σ else f) f) f) f) f
  | .laload => eP st (fun v r => eP r (fun w r2 => eI v (fun i => eR w (fun o => if en.2.2.1 = 1 then (if lc o = 105 ∧ 0 ≤ i ∧ i < gI σ o (-1) then k (pc + 1) L (vL (gL σ o i) :: r2) σ else f) else (if lc o = 102 ∧ 0 ≤ i ∧ i < ln o then k (pc + 1) L (vL (gL σ o i) :: r2) σ else f)) f) f) f) f
  | .iastore => eP st (fun v r => eP r (fun w r2 => eP r2 (fun u r3 => eI v (fun a => eI w (fun i => eR u (fun o => if lc o = 101 ∧ 0 ≤ i ∧ i < ln o then k (pc + 1) L r3 (sI σ o i a) else f) f) f) f) f) f) f
  | .lastore => eP st (fun v r => eP r (fun w r2 => eP r2 (fun u r3 => eL v (fun a => eI w (fun i => eR u (fun o => if en.2.2.1 = 1 then (if lc o = 105 ∧ 0 ≤ i ∧ i < gI σ o (-1) then k (pc + 1) L r3 (sL σ o i a) else f) else (if lc o = 102 ∧ 0 ≤ i ∧ i < ln o then k (pc + 1) L r3 (sL σ o i a) else f)) f) f) f) f) f) f
  | .arraylength => eP st (fun v r => eR v (fun o => if lc o = 101 ∨ lc o = 102 then k (pc + 1) L (vI (ln o) :: r) σ else f) f) f
  | _ => f

/-- which instructions ss knows: not those that end or call -/
def isS (i : Jvm.ClassFile.Instr) : Bool := match i with
  | .ireturn => false | .lreturn => false | .freturn => false | .dreturn => false | .areturn => false | .return_ => false
  | .invokevirtual _ => false | .invokestatic _ => false | .new _ => false | _ => true
def optL (v : Option AV) : List AV := match v with | some a => [a] | none => []
def rcv (as : List AV) (ci : Nat) : Bool := match as.getLast? with | some v => eR v (fun o => lc o == ci) false | none => false
abbrev EF : Type := Nat → Nat → Nat → Lo → List AV → St → Option (Res × St)
def bcall (en : Ent) (t mi pc : Nat) (L : Lo) (st : List AV) (σ : St) (E : EF) : Option (Res × St) :=
  if en.2.2.2.1 ≤ st.length ∧ wt (st.drop en.2.2.2.1) ≤ 8 ∧ wt (st.take en.2.2.2.1) ≤ mL en.2.2.1 ∧ en.2.2.2.2.2.toNat ≤ t then
    (match E en.2.2.2.2.2.toNat en.2.2.1 0 (entry (mL en.2.2.1) (st.take en.2.2.2.1).reverse) [] σ with
    | none => none
    | some (.inl v, σ') => E (t - en.2.2.2.2.2.toNat) mi (pc + 3) L (optL v ++ st.drop en.2.2.2.1) σ'
    | some (.inr X, σ') => (match hd mi pc X with
      | none => some (.inr X, σ')
      | some q => E (t - en.2.2.2.2.2.toNat) mi q.1 (lkill L q.2) [] σ')) else none
def nbod (en : Ent) (t mi pc : Nat) (L : Lo) (st : List AV) (σ : St) (E : EF) : Option (Res × St) :=
  if en.2.2.1 = 1000 then eP st (fun v r => eD v (fun d => if wt r ≤ 8 then E t mi (pc + 3) L (vL d.toBitVec :: r) σ else none) none) none
  else if en.2.2.1 = 1001 then eP st (fun v r => eL v (fun b => if n64 (UInt64.ofBitVec b) ∧ wt r ≤ 8 then E t mi (pc + 3) L (vD (UInt64.ofBitVec b) :: r) σ else none) none) none
  else if en.2.2.1 = 1002 then eP st (fun v r => eP r (fun w r2 => eL v (fun b => eL w (fun a => if wt r2 ≤ 8 then E t mi (pc + 3) L (vL (lMin a b) :: r2) σ else none) none) none) none) none
  else bcall en t mi pc L st σ E
def bod (en : Ent) (t mi pc : Nat) (L : Lo) (st : List AV) (σ : St) (E : EF) : Option (Res × St) := match en.1 with
  | .ireturn => eP st (fun v r => eN r (eI v (fun z => if en.2.2.1 = 1 → (z = 0 ∨ z = 1) then some (.inl (some (vI z)), σ) else none) none) none) none
  | .lreturn => eP st (fun v r => eN r (eL v (fun z => some (.inl (some (vL z)), σ)) none) none) none
  | .freturn => eP st (fun v r => eN r (eF v (fun z => some (.inl (some (vF z)), σ)) none) none) none
  | .dreturn => eP st (fun v r => eN r (eD v (fun z => some (.inl (some (vD z)), σ)) none) none) none
  | .areturn => eP st (fun v r => eN r (eR v (fun z => some (.inl (some (vR z)), σ)) none) none) none
  | .return_ => eN st (some (.inl none, σ)) none
  | .new _ => if en.2.2.2.1 = 1 ∧ 1 ≤ t ∧ st = [] then some (.inr en.2.2.1, σ) else none
  | .invokestatic _ => nbod en t mi pc L st σ E
  | .invokevirtual _ => if rcv (st.take en.2.2.2.1) en.2.2.2.2.1 = true then bcall en t mi pc L st σ E else none
  | _ => ss en pc L st σ (fun pc' L' st' σ' => E t mi pc' L' st' σ') none
/-- the machine with fuel n, t throws left, in method mi at pc -/
def ex : Nat → EF
  | 0, _, _, _, _, _, _ => none
  | n + 1, t, mi, pc, L, st, σ => match cd mi pc with
    | none => none
    | some en => bod en t mi pc L st σ (fun t' mi' pc' L' st' σ' => ex n t' mi' pc' L' st' σ')
def wp (t mi pc : Nat) (L : Lo) (st : List AV) (σ : St) (Q : Res → St → Prop) : Prop := ∃ (n : Nat) (r : Res) (σ' : St), ex n t mi pc L st σ = some (r, σ') ∧ Q r σ'
def Call (b y : Nat) (as : List AV) (σ : St) (Q : Res → St → Prop) : Prop := wp b y 0 (entry (mL y) as) [] σ Q
def aft (r : Res) (F : List AV → Prop) (G : Nat → Prop) : Prop := match r with | .inl v => F (optL v) | .inr X => G X
set_option maxHeartbeats 4000000 in
theorem ss_nat (en : Ent) (pc : Nat) (L : Lo) (st : List AV) (σ : St) : (∃ a b c d, (∀ (k : Nat → Lo → List AV → St → Option (Res × St)) f, ss en pc L st σ k f = k a b c d) ∧ ∀ (k : Nat → Lo → List AV → St → Prop) f, ss en pc L st σ k f = k a b c d) ∨ ((∀ (k : Nat → Lo → List AV → St → Option (Res × St)) f, ss en pc L st σ k f = f) ∧ ∀ (k : Nat → Lo → List AV → St → Prop) f, ss en pc L st σ k f = f) := by
  unfold ss
  split <;> (try simp only [eP, eO, eI, eL, eD, eF, eR])
  all_goals repeat' split
  all_goals first
    | exact Or.inr ⟨fun _ _ => rfl, fun _ _ => rfl⟩
    | exact Or.inl ⟨_, _, _, _, fun _ _ => rfl, fun _ _ => rfl⟩
    | (simp_all; done)
