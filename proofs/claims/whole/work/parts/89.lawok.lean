-- THE LAW ends with 1, on every script
section LZ
variable {X : Nat × (Nat → Int)} {mi : mm_M} {h : mm_H} {Q : Option mm_V → mm_S → Prop} {i : Int}
/-- one turn of the law's loop -/
theorem law_turn (hG : bothG mi h) (hi : 0 ≤ i ∧ i + 5 < X.1 ∧ X.1 ≤ 3072) (hr : ∀ j, -2147483648 ≤ X.2 j ∧ X.2 j < 2147483648) (hn : ∀ m2 h2, bothG m2 h2 → lwp X 18 (i + 6) [] (mm_ms0 m2 h2) Q) : lwp X 27 i [] (mm_ms0 mi h) Q := by
  have hn2 : ∀ m2 h2, bothG m2 h2 → lwp X 911 i [] (mm_ms0 m2 h2) Q := by
    intro m2 h2 g
    refine gwp_steps (c2 := (18, lwL (mm_w (i + 6)), [], mm_ms0 m2 h2, 76, 12523)) 2 he154 rfl ?_
    rw [mm_wi (z := i + 6) (by omega) (by omega)]
    exact hn m2 h2 g
  refine law_sel rfl rfl rfl (by omega) ?_
  refine gwp_steps (c2 := (33, lwL i, [.inl (Int32.ofInt (X.2 i.toNat) &&& Int32.ofInt 31).toInt], mm_ms0 mi h, 76, 12523)) 2 he154 rfl ?_
  generalize (Int32.ofInt (X.2 i.toNat) &&& Int32.ofInt 31).toInt = z
  by_cases q : z < 0 ∨ 24 < z
  · refine gwp_step1 (ins := .tableswitch 878 0 24 #[115, 128, 207, 240, 293, 346, 379, 404, 417, 430, 443, 456, 469, 492, 525, 568, 601, 634, 657, 680, 723, 756, 789, 822, 855]) (len := 115) (tgt := 0) (c2 := (911, lwL i, [], mm_ms0 mi h, 76, 12523)) he154 rfl (if_pos q) ?_
    exact hn2 mi h hG
  · have hz : z = 0 ∨ z = 1 ∨ z = 2 ∨ z = 3 ∨ z = 4 ∨ z = 5 ∨ z = 6 ∨ z = 7 ∨ z = 8 ∨ z = 9 ∨ z = 10 ∨ z = 11 ∨ z = 12 ∨ z = 13 ∨ z = 14 ∨ z = 15 ∨ z = 16 ∨ z = 17 ∨ z = 18 ∨ z = 19 ∨ z = 20 ∨ z = 21 ∨ z = 22 ∨ z = 23 ∨ z = 24 := by omega
    rcases hz with q0 | q1 | q2 | q3 | q4 | q5 | q6 | q7 | q8 | q9 | q10 | q11 | q12 | q13 | q14 | q15 | q16 | q17 | q18 | q19 | q20 | q21 | q22 | q23 | q24
    · subst q0
      refine gwp_steps (c2 := (148, lwL i, [], mm_ms0 mi h, 76, 12523)) 1 he154 rfl ?_
      exact lc0 hG hi hr hn2
    · subst q1
      refine gwp_steps (c2 := (161, lwL i, [], mm_ms0 mi h, 76, 12523)) 1 he154 rfl ?_
      exact lc1 hG hi hr hn2
    · subst q2
      refine gwp_steps (c2 := (240, lwL i, [], mm_ms0 mi h, 76, 12523)) 1 he154 rfl ?_
      exact lc2 hG hi hr hn2
    · subst q3
      refine gwp_steps (c2 := (273, lwL i, [], mm_ms0 mi h, 76, 12523)) 1 he154 rfl ?_
      exact lc3 hG hi hr hn2
    · subst q4
      refine gwp_steps (c2 := (326, lwL i, [], mm_ms0 mi h, 76, 12523)) 1 he154 rfl ?_
      exact lc4 hG hi hr hn2
    · subst q5
      refine gwp_steps (c2 := (379, lwL i, [], mm_ms0 mi h, 76, 12523)) 1 he154 rfl ?_
      exact lc5 hG hi hr hn2
    · subst q6
      refine gwp_steps (c2 := (412, lwL i, [], mm_ms0 mi h, 76, 12523)) 1 he154 rfl ?_
      exact lc6 hG hi hr hn2
    · subst q7
      refine gwp_steps (c2 := (437, lwL i, [], mm_ms0 mi h, 76, 12523)) 1 he154 rfl ?_
      exact lc7 hG hi hr hn2
    · subst q8
      refine gwp_steps (c2 := (450, lwL i, [], mm_ms0 mi h, 76, 12523)) 1 he154 rfl ?_
      exact lc8 hG hi hr hn2
    · subst q9
      refine gwp_steps (c2 := (463, lwL i, [], mm_ms0 mi h, 76, 12523)) 1 he154 rfl ?_
      exact lc9 hG hi hr hn2
    · subst q10
      refine gwp_steps (c2 := (476, lwL i, [], mm_ms0 mi h, 76, 12523)) 1 he154 rfl ?_
      exact lc10 hG hi hr hn2
    · subst q11
      refine gwp_steps (c2 := (489, lwL i, [], mm_ms0 mi h, 76, 12523)) 1 he154 rfl ?_
      exact lc11 hG hi hr hn2
    · subst q12
      refine gwp_steps (c2 := (502, lwL i, [], mm_ms0 mi h, 76, 12523)) 1 he154 rfl ?_
      exact lc12 hG hi hr hn2
    · subst q13
      refine gwp_steps (c2 := (525, lwL i, [], mm_ms0 mi h, 76, 12523)) 1 he154 rfl ?_
      exact lc13 hG hi hr hn2
    · subst q14
      refine gwp_steps (c2 := (558, lwL i, [], mm_ms0 mi h, 76, 12523)) 1 he154 rfl ?_
      exact lc14 hG hi hr hn2
    · subst q15
      refine gwp_steps (c2 := (601, lwL i, [], mm_ms0 mi h, 76, 12523)) 1 he154 rfl ?_
      exact lc15 hG hi hr hn2
    · subst q16
      refine gwp_steps (c2 := (634, lwL i, [], mm_ms0 mi h, 76, 12523)) 1 he154 rfl ?_
      exact lc16 hG hi hr hn2
    · subst q17
      refine gwp_steps (c2 := (667, lwL i, [], mm_ms0 mi h, 76, 12523)) 1 he154 rfl ?_
      exact lc17 hG hi hr hn2
    · subst q18
      refine gwp_steps (c2 := (690, lwL i, [], mm_ms0 mi h, 76, 12523)) 1 he154 rfl ?_
      exact lc18 hG hi hr hn2
    · subst q19
      refine gwp_steps (c2 := (713, lwL i, [], mm_ms0 mi h, 76, 12523)) 1 he154 rfl ?_
      exact lc19 hG hi hr hn2
    · subst q20
      refine gwp_steps (c2 := (756, lwL i, [], mm_ms0 mi h, 76, 12523)) 1 he154 rfl ?_
      exact lc20 hG hi hr hn2
    · subst q21
      refine gwp_steps (c2 := (789, lwL i, [], mm_ms0 mi h, 76, 12523)) 1 he154 rfl ?_
      exact lc21 hG hi hr hn2
    · subst q22
      refine gwp_steps (c2 := (822, lwL i, [], mm_ms0 mi h, 76, 12523)) 1 he154 rfl ?_
      exact lc22 hG hi hr hn2
    · subst q23
      refine gwp_steps (c2 := (855, lwL i, [], mm_ms0 mi h, 76, 12523)) 1 he154 rfl ?_
      exact lc23 hG hi hr hn2
    · subst q24
      refine gwp_steps (c2 := (888, lwL i, [], mm_ms0 mi h, 76, 12523)) 1 he154 rfl ?_
      exact lc24 hG hi hr hn2
theorem law_loop (hX : X.1 ≤ 3072) (hr : ∀ j, -2147483648 ≤ X.2 j ∧ X.2 j < 2147483648) : ∀ (d : Nat) (i : Int) (mi : mm_M) (h : mm_H), 0 ≤ i → i ≤ 3078 → (X.1 : Int) - i < d → bothG mi h → lwp X 18 i [] (mm_ms0 mi h) (fun v _ => v = some (.inl 1)) := by
  have out : ∀ (i : Int) (mi : mm_M) (h : mm_H), lwp X 917 i [] (mm_ms0 mi h) (fun v _ => v = some (.inl 1)) := by
    intro i mi h
    refine gwp_steps (c2 := (918, lwL i, [.inl 1], mm_ms0 mi h, 76, 12523)) 1 he154 rfl ?_
    exact gwp_end (v := some (.inl 1)) (S := mm_ms0 mi h) (ins := .ireturn) (len := 1) (tgt := 0) he154 rfl rfl rfl
  intro d
  induction d with
  | zero =>
    intro i mi h h0 h1 h2 hG
    refine gwp_steps (c2 := (if mm_w ((X.1 : Int) - 6) < i then 917 else 27, lwL i, [], mm_ms0 mi h, 76, 12523)) 6 he154 rfl ?_
    rw [mm_wi (z := (X.1 : Int) - 6) (by omega) (by omega), if_pos (by omega)]
    exact out i mi h
  | succ d ih =>
    intro i mi h h0 h1 h2 hG
    refine gwp_steps (c2 := (if mm_w ((X.1 : Int) - 6) < i then 917 else 27, lwL i, [], mm_ms0 mi h, 76, 12523)) 6 he154 rfl ?_
    rw [mm_wi (z := (X.1 : Int) - 6) (by omega) (by omega)]
    by_cases q : (X.1 : Int) - 6 < i
    · rw [if_pos q]
      exact out i mi h
    · rw [if_neg q]
      exact law_turn hG ⟨h0, by omega, hX⟩ hr (fun m2 h3 g => ih (i + 6) m2 h3 (by omega) (by omega) (by omega) g)
end LZ
theorem mm_lawOK (L : Nat) (xs : Nat → Int) (hL : L ≤ 3072) (hx : ∀ j, -2147483648 ≤ xs j ∧ xs j < 2147483648) : ∃ (n : Nat) (S1 : mm_S), mm_run mt (L, xs) n mm_law (0, mm_entry mi_L_law [.inr none], [], mm_S0, 0, 0) = some (some (.inl 1), S1) := by
  obtain ⟨n, v, S1, g1, g2⟩ := law_start (X := (L, xs)) (Q := fun v _ => v = some (.inl 1)) (fun mi h g => law_loop (X := (L, xs)) hL hx (L + 1) 0 mi h (by omega) (by omega) (by show (L : Int) - 0 < ((L + 1 : Nat) : Int); omega) g)
  subst g2
  exact ⟨n, S1, g1⟩
