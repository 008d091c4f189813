/-! the first state, and its world: printed by gen_start.py -/
/-- the first state -/
def st0 : St := (fun c j => if c = 19 then (if j = 8 then 1 else 0) else if c = 30 then (if j = 8 then 1 else 0) else if c = 41 then (if j = 2 then 1 else 0) else if c = 0 then (if j = 9 then -1 else 0) else 0, (fun _ _ => 0, fun _ _ => 0))
/-- its addresses -/
def al (qP : Nat) (aP : Nat → Nat) : Nat → Nat := fun c => if c = 0 then qP else aP c
def blk (κ : Nat → ClassId) (α : Nat → Nat) (c0 n : Nat) : va_W := (List.range n).map (fun i => (α (c0 + i), cE κ α st0 (c0 + i)))
theorem blk_app (κ : Nat → ClassId) (α : Nat → Nat) (c0 n k : Nat) : blk κ α c0 n ++ blk κ α (c0 + n) k = blk κ α c0 (n + k) := by
  unfold blk
  rw [List.range_add, List.map_append, List.map_map]
  congr 1
  apply List.map_congr_left
  intro i _
  show (α (c0 + n + i), cE κ α st0 (c0 + n + i)) = (α (c0 + (n + i)), cE κ α st0 (c0 + (n + i)))
  rw [Nat.add_assoc]
set_option maxHeartbeats 4000000 in
theorem bk_1 (κ : Nat → ClassId) (α : Nat → Nat) : wf_BT κ (α 1) (fun i => α (1 + i)) = blk κ α 1 2 := rfl
set_option maxHeartbeats 4000000 in
theorem bk_3 (κ : Nat → ClassId) (α : Nat → Nat) : wf_DR κ (α 3) (fun i => α (3 + i)) = blk κ α 3 2 := rfl
set_option maxHeartbeats 4000000 in
theorem bk_5 (κ : Nat → ClassId) (α : Nat → Nat) : wf_PR κ (α 5) (fun i => α (5 + i)) = blk κ α 5 7 := rfl
set_option maxHeartbeats 4000000 in
theorem bk_12 (κ : Nat → ClassId) (α : Nat → Nat) : wf_PR κ (α 12) (fun i => α (12 + i)) = blk κ α 12 7 := rfl
set_option maxHeartbeats 4000000 in
theorem bk_19 (κ : Nat → ClassId) (α : Nat → Nat) : wf_IN κ (α 19) (fun i => α (19 + i)) = blk κ α 19 11 := rfl
set_option maxHeartbeats 4000000 in
theorem bk_30 (κ : Nat → ClassId) (α : Nat → Nat) : wf_IN κ (α 30) (fun i => α (30 + i)) = blk κ α 30 11 := rfl
set_option maxHeartbeats 4000000 in
theorem bk_41 (κ : Nat → ClassId) (α : Nat → Nat) : wf_UN κ (α 41) (fun i => α (41 + i)) = blk κ α 41 3 := rfl
set_option maxHeartbeats 4000000 in
theorem bk_44 (κ : Nat → ClassId) (α : Nat → Nat) : wf_GR κ (α 44) (fun i => α (44 + i)) = blk κ α 44 2 := rfl
set_option maxHeartbeats 4000000 in
theorem bk_46 (κ : Nat → ClassId) (α : Nat → Nat) : wf_MA κ (α 46) (fun i => α (46 + i)) = blk κ α 46 7 := rfl
theorem bk_0 (κ : Nat → ClassId) (α : Nat → Nat) : ((α 0, .inr (8, [.ref (α 1), .ref (α 3), .ref (α 5), .ref (α 12), .ref (α 19), .ref (α 30), .ref (α 41), .ref (α 44), .ref (α 46), .int (-1), .int 0])) : Nat × va_E) = (α 0, cE κ α st0 0) := rfl
theorem wf_PA_blk (κ : Nat → ClassId) (α : Nat → Nat) : wf_PA κ (α 0) α = blk κ α 0 53 := by
  unfold wf_PA
  rw [bk_0 κ α, bk_1 κ α, bk_3 κ α, bk_5 κ α, bk_12 κ α, bk_19 κ α, bk_30 κ α, bk_41 κ α, bk_44 κ α, bk_46 κ α]
  rw [show blk κ α 3 2 = blk κ α (1 + 2) 2 from rfl, blk_app]
  rw [show blk κ α 5 7 = blk κ α (1 + 4) 7 from rfl, blk_app]
  rw [show blk κ α 12 7 = blk κ α (1 + 11) 7 from rfl, blk_app]
  rw [show blk κ α 19 11 = blk κ α (1 + 18) 11 from rfl, blk_app]
  rw [show blk κ α 30 11 = blk κ α (1 + 29) 11 from rfl, blk_app]
  rw [show blk κ α 41 3 = blk κ α (1 + 40) 3 from rfl, blk_app]
  rw [show blk κ α 44 2 = blk κ α (1 + 43) 2 from rfl, blk_app]
  rw [show blk κ α 46 7 = blk κ α (1 + 45) 7 from rfl, blk_app]
  show blk κ α 0 1 ++ blk κ α (0 + 1) 52 = _
  rw [blk_app]
set_option maxHeartbeats 4000000 in
theorem pa_al (κ : Nat → ClassId) (qP : Nat) (aP : Nat → Nat) : wf_PA κ qP aP = wf_PA κ (al qP aP 0) (al qP aP) := rfl
theorem wst_eq (κ : Nat → ClassId) (qP : Nat) (aP : Nat → Nat) : wf_PA κ qP aP = wd κ (al qP aP) st0 := by
  rw [pa_al, wf_PA_blk]
  unfold blk wd
  rw [show nX (gI st0 53 (-1)) = 53 from rfl]
  simp only [Nat.zero_add]
