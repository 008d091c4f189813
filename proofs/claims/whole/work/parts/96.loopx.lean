/-! the law's loop -/
theorem case37 {p : Nat → Prop} (n : Nat) (hn : n < 37) (h0 : p 0) (h1 : p 1) (h2 : p 2) (h3 : p 3) (h4 : p 4) (h5 : p 5) (h6 : p 6) (h7 : p 7) (h8 : p 8) (h9 : p 9) (h10 : p 10) (h11 : p 11) (h12 : p 12) (h13 : p 13) (h14 : p 14) (h15 : p 15) (h16 : p 16) (h17 : p 17) (h18 : p 18) (h19 : p 19) (h20 : p 20) (h21 : p 21) (h22 : p 22) (h23 : p 23) (h24 : p 24) (h25 : p 25) (h26 : p 26) (h27 : p 27) (h28 : p 28) (h29 : p 29) (h30 : p 30) (h31 : p 31) (h32 : p 32) (h33 : p 33) (h34 : p 34) (h35 : p 35) (h36 : p 36) : p n := by
  by_cases e0 : n = 0
  · rw [e0]; exact h0
  by_cases e1 : n = 1
  · rw [e1]; exact h1
  by_cases e2 : n = 2
  · rw [e2]; exact h2
  by_cases e3 : n = 3
  · rw [e3]; exact h3
  by_cases e4 : n = 4
  · rw [e4]; exact h4
  by_cases e5 : n = 5
  · rw [e5]; exact h5
  by_cases e6 : n = 6
  · rw [e6]; exact h6
  by_cases e7 : n = 7
  · rw [e7]; exact h7
  by_cases e8 : n = 8
  · rw [e8]; exact h8
  by_cases e9 : n = 9
  · rw [e9]; exact h9
  by_cases e10 : n = 10
  · rw [e10]; exact h10
  by_cases e11 : n = 11
  · rw [e11]; exact h11
  by_cases e12 : n = 12
  · rw [e12]; exact h12
  by_cases e13 : n = 13
  · rw [e13]; exact h13
  by_cases e14 : n = 14
  · rw [e14]; exact h14
  by_cases e15 : n = 15
  · rw [e15]; exact h15
  by_cases e16 : n = 16
  · rw [e16]; exact h16
  by_cases e17 : n = 17
  · rw [e17]; exact h17
  by_cases e18 : n = 18
  · rw [e18]; exact h18
  by_cases e19 : n = 19
  · rw [e19]; exact h19
  by_cases e20 : n = 20
  · rw [e20]; exact h20
  by_cases e21 : n = 21
  · rw [e21]; exact h21
  by_cases e22 : n = 22
  · rw [e22]; exact h22
  by_cases e23 : n = 23
  · rw [e23]; exact h23
  by_cases e24 : n = 24
  · rw [e24]; exact h24
  by_cases e25 : n = 25
  · rw [e25]; exact h25
  by_cases e26 : n = 26
  · rw [e26]; exact h26
  by_cases e27 : n = 27
  · rw [e27]; exact h27
  by_cases e28 : n = 28
  · rw [e28]; exact h28
  by_cases e29 : n = 29
  · rw [e29]; exact h29
  by_cases e30 : n = 30
  · rw [e30]; exact h30
  by_cases e31 : n = 31
  · rw [e31]; exact h31
  by_cases e32 : n = 32
  · rw [e32]; exact h32
  by_cases e33 : n = 33
  · rw [e33]; exact h33
  by_cases e34 : n = 34
  · rw [e34]; exact h34
  by_cases e35 : n = 35
  · rw [e35]; exact h35
  rw [show n = 36 by omega]; exact h36
theorem iAnd_inR (a b : Int) : inR (iAnd a b) := by
  have h1 := BitVec.le_toInt (BitVec.ofInt 32 a &&& BitVec.ofInt 32 b)
  have h2 := BitVec.toInt_lt (x := BitVec.ofInt 32 a &&& BitVec.ofInt 32 b)
  unfold iAnd
  exact ⟨by simpa using h1, by have := h2; simp at this; omega⟩
section LOOP
variable {σ : St} {Q : Res → St → Prop} {P PS : Pg} {lim lS : Int}
theorem law_case {t : Nat} {i : Int} {a6 a7 a8 : Option AV} (h : JV P lim PS lS σ) (hi : 0 ≤ i) (hlen : i + 3 < gI σ 79 (-1)) (hn : ∀ j, 0 ≤ j → j < gI σ 79 (-1) → inR (gI σ 79 j)) (ht : 4 ≤ t) (hq : HQ t i σ Q) : wp t 305 37 [some (vR 79), some (vR 0), some (vR 53), some (vR 77), some (vR 78), some (vI i), a6, a7, a8] [] σ Q := by
  rw [x305_37]
  have hin := iAnd_inR (gI σ 79 i) 63
  generalize iAnd (gI σ 79 i) 63 = k at hin ⊢
  refine ⟨⟨hi, by omega⟩, hin, fun hk => ?_, fun _ => hq σ P lim PS lS a6 a7 a8 t h rfl (by omega)⟩
  rw [Int.sub_zero]
  refine case37 (p := fun n => wp t 305 (([208, 264, 320, 333, 346, 402, 458, 471, 527, 583, 651, 731, 786, 853, 920, 933, 1008, 1063, 1076, 1144, 1212, 1225, 1280, 1355, 1368, 1423, 1486, 1549, 1605, 1618, 1673, 1740, 1753, 1766, 1831, 1897, 1908] : List Nat).getD n 0) [some (vR 79), some (vR 0), some (vR 53), some (vR 77), some (vR 78), some (vI i), a6, a7, a8] [] σ Q) k.toNat (by omega) (op_208 h hi hlen hn ht hq) (op_264 h hi hlen hn ht hq) (op_320 h ht hq) (op_333 h ht hq) (op_346 h hi hlen hn ht hq) (op_402 h hi hlen hn ht hq) (op_458 h ht hq) (op_471 h hi hlen hn ht hq) (op_527 h hi hlen hn ht hq) (op_583 h hi hlen hn ht hq) (op_651 h hi hlen hn ht hq) (op_731 h hi hlen hn ht hq) (op_786 h hi hlen hn ht hq) (op_853 h hi hlen hn ht hq) (op_920 h ht hq) (op_933 h hi hlen hn ht hq) (op_1008 h hi hlen hn ht hq) (op_1063 h ht hq) (op_1076 h hi hlen hn ht hq) (op_1144 h hi hlen hn ht hq) (op_1212 h ht hq) (op_1225 h hi hlen hn ht hq) (op_1280 h hi hlen hn ht hq) (op_1355 h ht hq) (op_1368 h hi hlen hn ht hq) (op_1423 h hi hlen hn ht hq) (op_1486 h hi hlen hn ht hq) (op_1549 h hi hlen hn ht hq) (op_1605 h ht hq) (op_1618 h hi hlen hn ht hq) (op_1673 h hi hlen hn ht hq) (op_1740 h ht hq) (op_1753 h ht hq) (op_1766 h ht hq) (op_1831 h ht hq) (op_1897 h ht hq) (op_1908 h ht hq)
theorem law_loop (hQ : ∀ σ', Q (.inl (some (vI 1))) σ') : ∀ (d t : Nat) (i : Int) (σ : St) (P PS : Pg) (lim lS : Int) (a6 a7 a8 : Option AV), JV P lim PS lS σ → 0 ≤ i → i ≤ 3000 → (0 ≤ gI σ 79 (-1) ∧ gI σ 79 (-1) ≤ 2048) → (∀ j, 0 ≤ j → j < gI σ 79 (-1) → inR (gI σ 79 j)) → gI σ 79 (-1) - i < 4 * d + 4 → 4 * d ≤ t → wp t 305 28 [some (vR 79), some (vR 0), some (vR 53), some (vR 77), some (vR 78), some (vI i), a6, a7, a8] [] σ Q
  | 0, t, i, σ, P, PS, lim, lS, a6, a7, a8, h, i0, i1, hN, hn, hd, ht => by
    rw [x305_28]
    refine ⟨⟨⟨by omega, by omega⟩, by omega, by omega⟩, fun _ => ?_, fun k => absurd (show gI σ 79 (-1) - 4 < i by omega) k⟩
    rw [x305_1938]; exact hQ σ
  | d + 1, t, i, σ, P, PS, lim, lS, a6, a7, a8, h, i0, i1, hN, hn, hd, ht => by
    rw [x305_28]
    refine ⟨⟨⟨by omega, by omega⟩, by omega, by omega⟩, fun _ => ?_, fun k => ?_⟩
    · rw [x305_1938]; exact hQ σ
    · refine law_case h i0 (by omega) hn (by omega) (fun σ' P' lim' PS' lS' b6 b7 b8 t' h' e79 ht' => ?_)
      rw [x305_1932]
      exact law_loop hQ d t' (i + 4) σ' P' PS' lim' lS' b6 b7 b8 h' (by omega) (by omega) (by rw [e79]; exact hN) (by rw [e79]; exact hn) (by rw [e79]; omega) (by omega)
end LOOP
