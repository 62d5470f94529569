-- THE LAW, a call at a time; printed by gen84.py
section LW
variable {X : Nat × (Nat → Int)} {mi : mm_M} {h : mm_H} {Q : Option mm_V → mm_S → Prop} {i : Int}
theorem lc0 (hG : bothG mi h) (hi : 0 ≤ i ∧ i + 5 < X.1 ∧ X.1 ≤ 3072) (hr : ∀ j, -2147483648 ≤ X.2 j ∧ X.2 j < 2147483648) (hn : ∀ m2 h2, bothG m2 h2 → lwp X 911 i [] (mm_ms0 m2 h2) Q) : lwp X 148 i [] (mm_ms0 mi h) Q := by
  refine gwp_steps (c2 := (149, lwL i, [.inr (some 0)], mm_ms0 mi h, 76, 12523)) 1 he154 rfl ?_
  refine gwp_call (ins := .invokevirtual 13) (len := 3) (tgt := 0) (k := 60) (as := [.inr (some 0)]) (pc2 := 152) (L2 := lwL i) (r := []) (S := mm_ms0 mi h) (cu := 76) (su := 12523) he154 he60 rfl rfl ?_
  refine gwp_mcl he60 ?_
  refine pr0 hG _ (fun a m1 h1 hP => ?_)
  show gwp X 154 (152, lwL i, [.inl a], mm_ms0 m1 h1, 76, 12523) Q
  refine gwp_steps (c2 := (153, lwL i, [.inr (some 69), .inl a], mm_ms0 m1 h1, 76, 12523)) 1 he154 rfl ?_
  refine gwp_call (ins := .invokevirtual 17) (len := 3) (tgt := 0) (k := 116) (as := [.inr (some 69)]) (pc2 := 156) (L2 := lwL i) (r := [.inl a]) (S := mm_ms0 m1 h1) (cu := 76) (su := 12523) he154 he116 rfl rfl ?_
  refine gwp_mcl he116 ?_
  refine hP _ (fun m2 h2 hG2 => ?_)
  show gwp X 154 (156, lwL i, [.inl a, .inl a], mm_ms0 m2 h2, 76, 12523) Q
  refine gwp_steps (c2 := (if a = a then 911 else 159, lwL i, [], mm_ms0 m2 h2, 76, 12523)) 1 he154 rfl ?_
  rw [if_pos rfl]
  exact hn m2 h2 hG2
theorem lc1 (hG : bothG mi h) (hi : 0 ≤ i ∧ i + 5 < X.1 ∧ X.1 ≤ 3072) (hr : ∀ j, -2147483648 ≤ X.2 j ∧ X.2 j < 2147483648) (hn : ∀ m2 h2, bothG m2 h2 → lwp X 911 i [] (mm_ms0 m2 h2) Q) : lwp X 161 i [] (mm_ms0 mi h) Q := by
  by_cases hb : X.2 (i + 4).toNat = 0
  · refine gwp_steps (c2 := (162, lwL i, [.inr (some 0)], mm_ms0 mi h, 76, 12523)) 1 he154 rfl ?_
    refine law_arg (j := 1) rfl rfl rfl rfl rfl (by omega) (mm_wi (by omega) (by omega)) ?_
    refine law_arg (j := 2) rfl rfl rfl rfl rfl (by omega) (mm_wi (by omega) (by omega)) ?_
    refine law_arg (j := 3) rfl rfl rfl rfl rfl (by omega) (mm_wi (by omega) (by omega)) ?_
    refine law_arg (j := 4) rfl rfl rfl rfl rfl (by omega) (mm_wi (by omega) (by omega)) ?_
    refine gwp_steps (c2 := (if X.2 (i + 4).toNat = 0 then 189 else 185, lwL i, [.inl (X.2 (i + 3).toNat), .inl (X.2 (i + 2).toNat), .inl (X.2 (i + 1).toNat), .inr (some 0)], mm_ms0 mi h, 76, 12523)) 1 he154 rfl ?_
    rw [if_pos hb]
    refine gwp_steps (c2 := (190, lwL i, [.inl 0, .inl (X.2 (i + 3).toNat), .inl (X.2 (i + 2).toNat), .inl (X.2 (i + 1).toNat), .inr (some 0)], mm_ms0 mi h, 76, 12523)) 1 he154 rfl ?_
    refine law_arg (j := 5) rfl rfl rfl rfl rfl (by omega) (mm_wi (by omega) (by omega)) ?_
    refine gwp_call (ins := .invokevirtual 18) (len := 3) (tgt := 0) (k := 61) (as := [.inr (some 0), .inl (X.2 (i + 1).toNat), .inl (X.2 (i + 2).toNat), .inl (X.2 (i + 3).toNat), .inl 0, .inl (X.2 (i + 5).toNat)]) (pc2 := 198) (L2 := lwL i) (r := []) (S := mm_ms0 mi h) (cu := 76) (su := 12523) he154 he61 rfl rfl ?_
    refine gwp_mcl he61 ?_
    refine pr1 hG _ (fun a m1 h1 hP => ?_)
    show gwp X 154 (198, lwL i, [.inl a], mm_ms0 m1 h1, 76, 12523) Q
    refine gwp_steps (c2 := (199, lwL i, [.inr (some 69), .inl a], mm_ms0 m1 h1, 76, 12523)) 1 he154 rfl ?_
    refine law_arg (j := 1) rfl rfl rfl rfl rfl (by omega) (mm_wi (by omega) (by omega)) ?_
    refine law_arg (j := 2) rfl rfl rfl rfl rfl (by omega) (mm_wi (by omega) (by omega)) ?_
    refine law_arg (j := 3) rfl rfl rfl rfl rfl (by omega) (mm_wi (by omega) (by omega)) ?_
    refine law_arg (j := 4) rfl rfl rfl rfl rfl (by omega) (mm_wi (by omega) (by omega)) ?_
    refine gwp_steps (c2 := (if X.2 (i + 4).toNat = 0 then 226 else 222, lwL i, [.inl (X.2 (i + 3).toNat), .inl (X.2 (i + 2).toNat), .inl (X.2 (i + 1).toNat), .inr (some 69), .inl a], mm_ms0 m1 h1, 76, 12523)) 1 he154 rfl ?_
    rw [if_pos hb]
    refine gwp_steps (c2 := (227, lwL i, [.inl 0, .inl (X.2 (i + 3).toNat), .inl (X.2 (i + 2).toNat), .inl (X.2 (i + 1).toNat), .inr (some 69), .inl a], mm_ms0 m1 h1, 76, 12523)) 1 he154 rfl ?_
    refine law_arg (j := 5) rfl rfl rfl rfl rfl (by omega) (mm_wi (by omega) (by omega)) ?_
    refine gwp_call (ins := .invokevirtual 22) (len := 3) (tgt := 0) (k := 117) (as := [.inr (some 69), .inl (X.2 (i + 1).toNat), .inl (X.2 (i + 2).toNat), .inl (X.2 (i + 3).toNat), .inl 0, .inl (X.2 (i + 5).toNat)]) (pc2 := 235) (L2 := lwL i) (r := [.inl a]) (S := mm_ms0 m1 h1) (cu := 76) (su := 12523) he154 he117 rfl rfl ?_
    refine gwp_mcl he117 ?_
    refine hP _ (fun m2 h2 hG2 => ?_)
    show gwp X 154 (235, lwL i, [.inl a, .inl a], mm_ms0 m2 h2, 76, 12523) Q
    refine gwp_steps (c2 := (if a = a then 911 else 238, lwL i, [], mm_ms0 m2 h2, 76, 12523)) 1 he154 rfl ?_
    rw [if_pos rfl]
    exact hn m2 h2 hG2
  · refine gwp_steps (c2 := (162, lwL i, [.inr (some 0)], mm_ms0 mi h, 76, 12523)) 1 he154 rfl ?_
    refine law_arg (j := 1) rfl rfl rfl rfl rfl (by omega) (mm_wi (by omega) (by omega)) ?_
    refine law_arg (j := 2) rfl rfl rfl rfl rfl (by omega) (mm_wi (by omega) (by omega)) ?_
    refine law_arg (j := 3) rfl rfl rfl rfl rfl (by omega) (mm_wi (by omega) (by omega)) ?_
    refine law_arg (j := 4) rfl rfl rfl rfl rfl (by omega) (mm_wi (by omega) (by omega)) ?_
    refine gwp_steps (c2 := (if X.2 (i + 4).toNat = 0 then 189 else 185, lwL i, [.inl (X.2 (i + 3).toNat), .inl (X.2 (i + 2).toNat), .inl (X.2 (i + 1).toNat), .inr (some 0)], mm_ms0 mi h, 76, 12523)) 1 he154 rfl ?_
    rw [if_neg hb]
    refine gwp_steps (c2 := (190, lwL i, [.inl 1, .inl (X.2 (i + 3).toNat), .inl (X.2 (i + 2).toNat), .inl (X.2 (i + 1).toNat), .inr (some 0)], mm_ms0 mi h, 76, 12523)) 2 he154 rfl ?_
    refine law_arg (j := 5) rfl rfl rfl rfl rfl (by omega) (mm_wi (by omega) (by omega)) ?_
    refine gwp_call (ins := .invokevirtual 18) (len := 3) (tgt := 0) (k := 61) (as := [.inr (some 0), .inl (X.2 (i + 1).toNat), .inl (X.2 (i + 2).toNat), .inl (X.2 (i + 3).toNat), .inl 1, .inl (X.2 (i + 5).toNat)]) (pc2 := 198) (L2 := lwL i) (r := []) (S := mm_ms0 mi h) (cu := 76) (su := 12523) he154 he61 rfl rfl ?_
    refine gwp_mcl he61 ?_
    refine pr1 hG _ (fun a m1 h1 hP => ?_)
    show gwp X 154 (198, lwL i, [.inl a], mm_ms0 m1 h1, 76, 12523) Q
    refine gwp_steps (c2 := (199, lwL i, [.inr (some 69), .inl a], mm_ms0 m1 h1, 76, 12523)) 1 he154 rfl ?_
    refine law_arg (j := 1) rfl rfl rfl rfl rfl (by omega) (mm_wi (by omega) (by omega)) ?_
    refine law_arg (j := 2) rfl rfl rfl rfl rfl (by omega) (mm_wi (by omega) (by omega)) ?_
    refine law_arg (j := 3) rfl rfl rfl rfl rfl (by omega) (mm_wi (by omega) (by omega)) ?_
    refine law_arg (j := 4) rfl rfl rfl rfl rfl (by omega) (mm_wi (by omega) (by omega)) ?_
    refine gwp_steps (c2 := (if X.2 (i + 4).toNat = 0 then 226 else 222, lwL i, [.inl (X.2 (i + 3).toNat), .inl (X.2 (i + 2).toNat), .inl (X.2 (i + 1).toNat), .inr (some 69), .inl a], mm_ms0 m1 h1, 76, 12523)) 1 he154 rfl ?_
    rw [if_neg hb]
    refine gwp_steps (c2 := (227, lwL i, [.inl 1, .inl (X.2 (i + 3).toNat), .inl (X.2 (i + 2).toNat), .inl (X.2 (i + 1).toNat), .inr (some 69), .inl a], mm_ms0 m1 h1, 76, 12523)) 2 he154 rfl ?_
    refine law_arg (j := 5) rfl rfl rfl rfl rfl (by omega) (mm_wi (by omega) (by omega)) ?_
    refine gwp_call (ins := .invokevirtual 22) (len := 3) (tgt := 0) (k := 117) (as := [.inr (some 69), .inl (X.2 (i + 1).toNat), .inl (X.2 (i + 2).toNat), .inl (X.2 (i + 3).toNat), .inl 1, .inl (X.2 (i + 5).toNat)]) (pc2 := 235) (L2 := lwL i) (r := [.inl a]) (S := mm_ms0 m1 h1) (cu := 76) (su := 12523) he154 he117 rfl rfl ?_
    refine gwp_mcl he117 ?_
    refine hP _ (fun m2 h2 hG2 => ?_)
    show gwp X 154 (235, lwL i, [.inl a, .inl a], mm_ms0 m2 h2, 76, 12523) Q
    refine gwp_steps (c2 := (if a = a then 911 else 238, lwL i, [], mm_ms0 m2 h2, 76, 12523)) 1 he154 rfl ?_
    rw [if_pos rfl]
    exact hn m2 h2 hG2
theorem lc2 (hG : bothG mi h) (hi : 0 ≤ i ∧ i + 5 < X.1 ∧ X.1 ≤ 3072) (hr : ∀ j, -2147483648 ≤ X.2 j ∧ X.2 j < 2147483648) (hn : ∀ m2 h2, bothG m2 h2 → lwp X 911 i [] (mm_ms0 m2 h2) Q) : lwp X 240 i [] (mm_ms0 mi h) Q := by
  refine gwp_steps (c2 := (241, lwL i, [.inr (some 0)], mm_ms0 mi h, 76, 12523)) 1 he154 rfl ?_
  refine law_arg (j := 1) rfl rfl rfl rfl rfl (by omega) (mm_wi (by omega) (by omega)) ?_
  refine law_arg (j := 2) rfl rfl rfl rfl rfl (by omega) (mm_wi (by omega) (by omega)) ?_
  refine gwp_call (ins := .invokevirtual 23) (len := 3) (tgt := 0) (k := 62) (as := [.inr (some 0), .inl (X.2 (i + 1).toNat), .inl (X.2 (i + 2).toNat)]) (pc2 := 254) (L2 := lwL i) (r := []) (S := mm_ms0 mi h) (cu := 76) (su := 12523) he154 he62 rfl rfl ?_
  refine gwp_mcl he62 ?_
  refine pr2 hG _ (fun a m1 h1 hP => ?_)
  show gwp X 154 (254, lwL i, [.inl a], mm_ms0 m1 h1, 76, 12523) Q
  refine gwp_steps (c2 := (255, lwL i, [.inr (some 69), .inl a], mm_ms0 m1 h1, 76, 12523)) 1 he154 rfl ?_
  refine law_arg (j := 1) rfl rfl rfl rfl rfl (by omega) (mm_wi (by omega) (by omega)) ?_
  refine law_arg (j := 2) rfl rfl rfl rfl rfl (by omega) (mm_wi (by omega) (by omega)) ?_
  refine gwp_call (ins := .invokevirtual 27) (len := 3) (tgt := 0) (k := 118) (as := [.inr (some 69), .inl (X.2 (i + 1).toNat), .inl (X.2 (i + 2).toNat)]) (pc2 := 268) (L2 := lwL i) (r := [.inl a]) (S := mm_ms0 m1 h1) (cu := 76) (su := 12523) he154 he118 rfl rfl ?_
  refine gwp_mcl he118 ?_
  refine hP _ (fun m2 h2 hG2 => ?_)
  show gwp X 154 (268, lwL i, [.inl a, .inl a], mm_ms0 m2 h2, 76, 12523) Q
  refine gwp_steps (c2 := (if a = a then 911 else 271, lwL i, [], mm_ms0 m2 h2, 76, 12523)) 1 he154 rfl ?_
  rw [if_pos rfl]
  exact hn m2 h2 hG2
theorem lc3 (hG : bothG mi h) (hi : 0 ≤ i ∧ i + 5 < X.1 ∧ X.1 ≤ 3072) (hr : ∀ j, -2147483648 ≤ X.2 j ∧ X.2 j < 2147483648) (hn : ∀ m2 h2, bothG m2 h2 → lwp X 911 i [] (mm_ms0 m2 h2) Q) : lwp X 273 i [] (mm_ms0 mi h) Q := by
  refine gwp_steps (c2 := (274, lwL i, [.inr (some 0)], mm_ms0 mi h, 76, 12523)) 1 he154 rfl ?_
  refine law_arg (j := 1) rfl rfl rfl rfl rfl (by omega) (mm_wi (by omega) (by omega)) ?_
  refine law_arg (j := 2) rfl rfl rfl rfl rfl (by omega) (mm_wi (by omega) (by omega)) ?_
  refine law_arg (j := 3) rfl rfl rfl rfl rfl (by omega) (mm_wi (by omega) (by omega)) ?_
  refine law_arg (j := 4) rfl rfl rfl rfl rfl (by omega) (mm_wi (by omega) (by omega)) ?_
  refine gwp_call (ins := .invokevirtual 28) (len := 3) (tgt := 0) (k := 63) (as := [.inr (some 0), .inl (X.2 (i + 1).toNat), .inl (X.2 (i + 2).toNat), .inl (X.2 (i + 3).toNat), .inl (X.2 (i + 4).toNat)]) (pc2 := 297) (L2 := lwL i) (r := []) (S := mm_ms0 mi h) (cu := 76) (su := 12523) he154 he63 rfl rfl ?_
  refine gwp_mcl he63 ?_
  refine pr3 hG _ (fun a m1 h1 hP => ?_)
  show gwp X 154 (297, lwL i, [.inl a], mm_ms0 m1 h1, 76, 12523) Q
  refine gwp_steps (c2 := (298, lwL i, [.inr (some 69), .inl a], mm_ms0 m1 h1, 76, 12523)) 1 he154 rfl ?_
  refine law_arg (j := 1) rfl rfl rfl rfl rfl (by omega) (mm_wi (by omega) (by omega)) ?_
  refine law_arg (j := 2) rfl rfl rfl rfl rfl (by omega) (mm_wi (by omega) (by omega)) ?_
  refine law_arg (j := 3) rfl rfl rfl rfl rfl (by omega) (mm_wi (by omega) (by omega)) ?_
  refine law_arg (j := 4) rfl rfl rfl rfl rfl (by omega) (mm_wi (by omega) (by omega)) ?_
  refine gwp_call (ins := .invokevirtual 32) (len := 3) (tgt := 0) (k := 119) (as := [.inr (some 69), .inl (X.2 (i + 1).toNat), .inl (X.2 (i + 2).toNat), .inl (X.2 (i + 3).toNat), .inl (X.2 (i + 4).toNat)]) (pc2 := 321) (L2 := lwL i) (r := [.inl a]) (S := mm_ms0 m1 h1) (cu := 76) (su := 12523) he154 he119 rfl rfl ?_
  refine gwp_mcl he119 ?_
  refine hP _ (fun m2 h2 hG2 => ?_)
  show gwp X 154 (321, lwL i, [.inl a, .inl a], mm_ms0 m2 h2, 76, 12523) Q
  refine gwp_steps (c2 := (if a = a then 911 else 324, lwL i, [], mm_ms0 m2 h2, 76, 12523)) 1 he154 rfl ?_
  rw [if_pos rfl]
  exact hn m2 h2 hG2
theorem lc4 (hG : bothG mi h) (hi : 0 ≤ i ∧ i + 5 < X.1 ∧ X.1 ≤ 3072) (hr : ∀ j, -2147483648 ≤ X.2 j ∧ X.2 j < 2147483648) (hn : ∀ m2 h2, bothG m2 h2 → lwp X 911 i [] (mm_ms0 m2 h2) Q) : lwp X 326 i [] (mm_ms0 mi h) Q := by
  refine gwp_steps (c2 := (327, lwL i, [.inr (some 0)], mm_ms0 mi h, 76, 12523)) 1 he154 rfl ?_
  refine law_arg (j := 1) rfl rfl rfl rfl rfl (by omega) (mm_wi (by omega) (by omega)) ?_
  refine law_arg (j := 2) rfl rfl rfl rfl rfl (by omega) (mm_wi (by omega) (by omega)) ?_
  refine law_arg (j := 3) rfl rfl rfl rfl rfl (by omega) (mm_wi (by omega) (by omega)) ?_
  refine law_arg (j := 4) rfl rfl rfl rfl rfl (by omega) (mm_wi (by omega) (by omega)) ?_
  refine gwp_call (ins := .invokevirtual 33) (len := 3) (tgt := 0) (k := 64) (as := [.inr (some 0), .inl (X.2 (i + 1).toNat), .inl (X.2 (i + 2).toNat), .inl (X.2 (i + 3).toNat), .inl (X.2 (i + 4).toNat)]) (pc2 := 350) (L2 := lwL i) (r := []) (S := mm_ms0 mi h) (cu := 76) (su := 12523) he154 he64 rfl rfl ?_
  refine gwp_mcl he64 ?_
  refine pr4 hG _ (fun a m1 h1 hP => ?_)
  show gwp X 154 (350, lwL i, [.inl a], mm_ms0 m1 h1, 76, 12523) Q
  refine gwp_steps (c2 := (351, lwL i, [.inr (some 69), .inl a], mm_ms0 m1 h1, 76, 12523)) 1 he154 rfl ?_
  refine law_arg (j := 1) rfl rfl rfl rfl rfl (by omega) (mm_wi (by omega) (by omega)) ?_
  refine law_arg (j := 2) rfl rfl rfl rfl rfl (by omega) (mm_wi (by omega) (by omega)) ?_
  refine law_arg (j := 3) rfl rfl rfl rfl rfl (by omega) (mm_wi (by omega) (by omega)) ?_
  refine law_arg (j := 4) rfl rfl rfl rfl rfl (by omega) (mm_wi (by omega) (by omega)) ?_
  refine gwp_call (ins := .invokevirtual 36) (len := 3) (tgt := 0) (k := 120) (as := [.inr (some 69), .inl (X.2 (i + 1).toNat), .inl (X.2 (i + 2).toNat), .inl (X.2 (i + 3).toNat), .inl (X.2 (i + 4).toNat)]) (pc2 := 374) (L2 := lwL i) (r := [.inl a]) (S := mm_ms0 m1 h1) (cu := 76) (su := 12523) he154 he120 rfl rfl ?_
  refine gwp_mcl he120 ?_
  refine hP _ (fun m2 h2 hG2 => ?_)
  show gwp X 154 (374, lwL i, [.inl a, .inl a], mm_ms0 m2 h2, 76, 12523) Q
  refine gwp_steps (c2 := (if a = a then 911 else 377, lwL i, [], mm_ms0 m2 h2, 76, 12523)) 1 he154 rfl ?_
  rw [if_pos rfl]
  exact hn m2 h2 hG2
theorem lc5 (hG : bothG mi h) (hi : 0 ≤ i ∧ i + 5 < X.1 ∧ X.1 ≤ 3072) (hr : ∀ j, -2147483648 ≤ X.2 j ∧ X.2 j < 2147483648) (hn : ∀ m2 h2, bothG m2 h2 → lwp X 911 i [] (mm_ms0 m2 h2) Q) : lwp X 379 i [] (mm_ms0 mi h) Q := by
  refine gwp_steps (c2 := (380, lwL i, [.inr (some 0)], mm_ms0 mi h, 76, 12523)) 1 he154 rfl ?_
  refine law_arg (j := 1) rfl rfl rfl rfl rfl (by omega) (mm_wi (by omega) (by omega)) ?_
  refine law_arg (j := 2) rfl rfl rfl rfl rfl (by omega) (mm_wi (by omega) (by omega)) ?_
  refine gwp_call (ins := .invokevirtual 37) (len := 3) (tgt := 0) (k := 65) (as := [.inr (some 0), .inl (X.2 (i + 1).toNat), .inl (X.2 (i + 2).toNat)]) (pc2 := 393) (L2 := lwL i) (r := []) (S := mm_ms0 mi h) (cu := 76) (su := 12523) he154 he65 rfl rfl ?_
  refine gwp_mcl he65 ?_
  refine pr5 hG _ (fun a m1 h1 hP => ?_)
  show gwp X 154 (393, lwL i, [.inl a], mm_ms0 m1 h1, 76, 12523) Q
  refine gwp_steps (c2 := (394, lwL i, [.inr (some 69), .inl a], mm_ms0 m1 h1, 76, 12523)) 1 he154 rfl ?_
  refine law_arg (j := 1) rfl rfl rfl rfl rfl (by omega) (mm_wi (by omega) (by omega)) ?_
  refine law_arg (j := 2) rfl rfl rfl rfl rfl (by omega) (mm_wi (by omega) (by omega)) ?_
  refine gwp_call (ins := .invokevirtual 40) (len := 3) (tgt := 0) (k := 121) (as := [.inr (some 69), .inl (X.2 (i + 1).toNat), .inl (X.2 (i + 2).toNat)]) (pc2 := 407) (L2 := lwL i) (r := [.inl a]) (S := mm_ms0 m1 h1) (cu := 76) (su := 12523) he154 he121 rfl rfl ?_
  refine gwp_mcl he121 ?_
  refine hP _ (fun m2 h2 hG2 => ?_)
  show gwp X 154 (407, lwL i, [.inl a, .inl a], mm_ms0 m2 h2, 76, 12523) Q
  refine gwp_steps (c2 := (if a = a then 911 else 410, lwL i, [], mm_ms0 m2 h2, 76, 12523)) 1 he154 rfl ?_
  rw [if_pos rfl]
  exact hn m2 h2 hG2
theorem lc6 (hG : bothG mi h) (hi : 0 ≤ i ∧ i + 5 < X.1 ∧ X.1 ≤ 3072) (hr : ∀ j, -2147483648 ≤ X.2 j ∧ X.2 j < 2147483648) (hn : ∀ m2 h2, bothG m2 h2 → lwp X 911 i [] (mm_ms0 m2 h2) Q) : lwp X 412 i [] (mm_ms0 mi h) Q := by
  refine gwp_steps (c2 := (413, lwL i, [.inr (some 0)], mm_ms0 mi h, 76, 12523)) 1 he154 rfl ?_
  refine law_arg (j := 1) rfl rfl rfl rfl rfl (by omega) (mm_wi (by omega) (by omega)) ?_
  refine gwp_steps (c2 := (419, lwL i, [.inl (X.2 (i + 1).toNat % 65536), .inr (some 0)], mm_ms0 mi h, 76, 12523)) 1 he154 rfl ?_
  refine gwp_call (ins := .invokevirtual 41) (len := 3) (tgt := 0) (k := 66) (as := [.inr (some 0), .inl (X.2 (i + 1).toNat % 65536)]) (pc2 := 422) (L2 := lwL i) (r := []) (S := mm_ms0 mi h) (cu := 76) (su := 12523) he154 he66 rfl rfl ?_
  refine gwp_mcl he66 ?_
  refine pr6 hG (by omega) _ (fun a m1 h1 hP => ?_)
  show gwp X 154 (422, lwL i, [.inl a], mm_ms0 m1 h1, 76, 12523) Q
  refine gwp_steps (c2 := (423, lwL i, [.inr (some 69), .inl a], mm_ms0 m1 h1, 76, 12523)) 1 he154 rfl ?_
  refine law_arg (j := 1) rfl rfl rfl rfl rfl (by omega) (mm_wi (by omega) (by omega)) ?_
  refine gwp_steps (c2 := (429, lwL i, [.inl (X.2 (i + 1).toNat % 65536), .inr (some 69), .inl a], mm_ms0 m1 h1, 76, 12523)) 1 he154 rfl ?_
  refine gwp_call (ins := .invokevirtual 45) (len := 3) (tgt := 0) (k := 122) (as := [.inr (some 69), .inl (X.2 (i + 1).toNat % 65536)]) (pc2 := 432) (L2 := lwL i) (r := [.inl a]) (S := mm_ms0 m1 h1) (cu := 76) (su := 12523) he154 he122 rfl rfl ?_
  refine gwp_mcl he122 ?_
  refine hP _ (fun m2 h2 hG2 => ?_)
  show gwp X 154 (432, lwL i, [.inl a, .inl a], mm_ms0 m2 h2, 76, 12523) Q
  refine gwp_steps (c2 := (if a = a then 911 else 435, lwL i, [], mm_ms0 m2 h2, 76, 12523)) 1 he154 rfl ?_
  rw [if_pos rfl]
  exact hn m2 h2 hG2
theorem lc7 (hG : bothG mi h) (hi : 0 ≤ i ∧ i + 5 < X.1 ∧ X.1 ≤ 3072) (hr : ∀ j, -2147483648 ≤ X.2 j ∧ X.2 j < 2147483648) (hn : ∀ m2 h2, bothG m2 h2 → lwp X 911 i [] (mm_ms0 m2 h2) Q) : lwp X 437 i [] (mm_ms0 mi h) Q := by
  refine gwp_steps (c2 := (438, lwL i, [.inr (some 0)], mm_ms0 mi h, 76, 12523)) 1 he154 rfl ?_
  refine gwp_call (ins := .invokevirtual 46) (len := 3) (tgt := 0) (k := 67) (as := [.inr (some 0)]) (pc2 := 441) (L2 := lwL i) (r := []) (S := mm_ms0 mi h) (cu := 76) (su := 12523) he154 he67 rfl rfl ?_
  refine gwp_mcl he67 ?_
  refine pr7 hG _ (fun a m1 h1 hP => ?_)
  show gwp X 154 (441, lwL i, [.inl a], mm_ms0 m1 h1, 76, 12523) Q
  refine gwp_steps (c2 := (442, lwL i, [.inr (some 69), .inl a], mm_ms0 m1 h1, 76, 12523)) 1 he154 rfl ?_
  refine gwp_call (ins := .invokevirtual 49) (len := 3) (tgt := 0) (k := 123) (as := [.inr (some 69)]) (pc2 := 445) (L2 := lwL i) (r := [.inl a]) (S := mm_ms0 m1 h1) (cu := 76) (su := 12523) he154 he123 rfl rfl ?_
  refine gwp_mcl he123 ?_
  refine hP _ (fun m2 h2 hG2 => ?_)
  show gwp X 154 (445, lwL i, [.inl a, .inl a], mm_ms0 m2 h2, 76, 12523) Q
  refine gwp_steps (c2 := (if a = a then 911 else 448, lwL i, [], mm_ms0 m2 h2, 76, 12523)) 1 he154 rfl ?_
  rw [if_pos rfl]
  exact hn m2 h2 hG2
theorem lc8 (hG : bothG mi h) (hi : 0 ≤ i ∧ i + 5 < X.1 ∧ X.1 ≤ 3072) (hr : ∀ j, -2147483648 ≤ X.2 j ∧ X.2 j < 2147483648) (hn : ∀ m2 h2, bothG m2 h2 → lwp X 911 i [] (mm_ms0 m2 h2) Q) : lwp X 450 i [] (mm_ms0 mi h) Q := by
  refine gwp_steps (c2 := (451, lwL i, [.inr (some 0)], mm_ms0 mi h, 76, 12523)) 1 he154 rfl ?_
  refine gwp_call (ins := .invokevirtual 50) (len := 3) (tgt := 0) (k := 68) (as := [.inr (some 0)]) (pc2 := 454) (L2 := lwL i) (r := []) (S := mm_ms0 mi h) (cu := 76) (su := 12523) he154 he68 rfl rfl ?_
  refine gwp_mcl he68 ?_
  refine pr8 hG _ (fun a m1 h1 hP => ?_)
  show gwp X 154 (454, lwL i, [.inl a], mm_ms0 m1 h1, 76, 12523) Q
  refine gwp_steps (c2 := (455, lwL i, [.inr (some 69), .inl a], mm_ms0 m1 h1, 76, 12523)) 1 he154 rfl ?_
  refine gwp_call (ins := .invokevirtual 53) (len := 3) (tgt := 0) (k := 134) (as := [.inr (some 69)]) (pc2 := 458) (L2 := lwL i) (r := [.inl a]) (S := mm_ms0 m1 h1) (cu := 76) (su := 12523) he154 he134 rfl rfl ?_
  refine gwp_mcl he134 ?_
  refine hP _ (fun m2 h2 hG2 => ?_)
  show gwp X 154 (458, lwL i, [.inl a, .inl a], mm_ms0 m2 h2, 76, 12523) Q
  refine gwp_steps (c2 := (if a = a then 911 else 461, lwL i, [], mm_ms0 m2 h2, 76, 12523)) 1 he154 rfl ?_
  rw [if_pos rfl]
  exact hn m2 h2 hG2
theorem lc9 (hG : bothG mi h) (hi : 0 ≤ i ∧ i + 5 < X.1 ∧ X.1 ≤ 3072) (hr : ∀ j, -2147483648 ≤ X.2 j ∧ X.2 j < 2147483648) (hn : ∀ m2 h2, bothG m2 h2 → lwp X 911 i [] (mm_ms0 m2 h2) Q) : lwp X 463 i [] (mm_ms0 mi h) Q := by
  refine gwp_steps (c2 := (464, lwL i, [.inr (some 0)], mm_ms0 mi h, 76, 12523)) 1 he154 rfl ?_
  refine gwp_call (ins := .invokevirtual 54) (len := 3) (tgt := 0) (k := 69) (as := [.inr (some 0)]) (pc2 := 467) (L2 := lwL i) (r := []) (S := mm_ms0 mi h) (cu := 76) (su := 12523) he154 he69 rfl rfl ?_
  refine gwp_mcl he69 ?_
  refine pr9 hG _ (fun a m1 h1 hP => ?_)
  show gwp X 154 (467, lwL i, [.inl a], mm_ms0 m1 h1, 76, 12523) Q
  refine gwp_steps (c2 := (468, lwL i, [.inr (some 69), .inl a], mm_ms0 m1 h1, 76, 12523)) 1 he154 rfl ?_
  refine gwp_call (ins := .invokevirtual 57) (len := 3) (tgt := 0) (k := 135) (as := [.inr (some 69)]) (pc2 := 471) (L2 := lwL i) (r := [.inl a]) (S := mm_ms0 m1 h1) (cu := 76) (su := 12523) he154 he135 rfl rfl ?_
  refine gwp_mcl he135 ?_
  refine hP _ (fun m2 h2 hG2 => ?_)
  show gwp X 154 (471, lwL i, [.inl a, .inl a], mm_ms0 m2 h2, 76, 12523) Q
  refine gwp_steps (c2 := (if a = a then 911 else 474, lwL i, [], mm_ms0 m2 h2, 76, 12523)) 1 he154 rfl ?_
  rw [if_pos rfl]
  exact hn m2 h2 hG2
theorem lc10 (hG : bothG mi h) (hi : 0 ≤ i ∧ i + 5 < X.1 ∧ X.1 ≤ 3072) (hr : ∀ j, -2147483648 ≤ X.2 j ∧ X.2 j < 2147483648) (hn : ∀ m2 h2, bothG m2 h2 → lwp X 911 i [] (mm_ms0 m2 h2) Q) : lwp X 476 i [] (mm_ms0 mi h) Q := by
  refine gwp_steps (c2 := (477, lwL i, [.inr (some 0)], mm_ms0 mi h, 76, 12523)) 1 he154 rfl ?_
  refine gwp_call (ins := .invokevirtual 58) (len := 3) (tgt := 0) (k := 70) (as := [.inr (some 0)]) (pc2 := 480) (L2 := lwL i) (r := []) (S := mm_ms0 mi h) (cu := 76) (su := 12523) he154 he70 rfl rfl ?_
  refine gwp_mcl he70 ?_
  refine pr10 hG _ (fun a m1 h1 hP => ?_)
  show gwp X 154 (480, lwL i, [.inl a], mm_ms0 m1 h1, 76, 12523) Q
  refine gwp_steps (c2 := (481, lwL i, [.inr (some 69), .inl a], mm_ms0 m1 h1, 76, 12523)) 1 he154 rfl ?_
  refine gwp_call (ins := .invokevirtual 61) (len := 3) (tgt := 0) (k := 136) (as := [.inr (some 69)]) (pc2 := 484) (L2 := lwL i) (r := [.inl a]) (S := mm_ms0 m1 h1) (cu := 76) (su := 12523) he154 he136 rfl rfl ?_
  refine gwp_mcl he136 ?_
  refine hP _ (fun m2 h2 hG2 => ?_)
  show gwp X 154 (484, lwL i, [.inl a, .inl a], mm_ms0 m2 h2, 76, 12523) Q
  refine gwp_steps (c2 := (if a = a then 911 else 487, lwL i, [], mm_ms0 m2 h2, 76, 12523)) 1 he154 rfl ?_
  rw [if_pos rfl]
  exact hn m2 h2 hG2
theorem lc11 (hG : bothG mi h) (hi : 0 ≤ i ∧ i + 5 < X.1 ∧ X.1 ≤ 3072) (hr : ∀ j, -2147483648 ≤ X.2 j ∧ X.2 j < 2147483648) (hn : ∀ m2 h2, bothG m2 h2 → lwp X 911 i [] (mm_ms0 m2 h2) Q) : lwp X 489 i [] (mm_ms0 mi h) Q := by
  refine gwp_steps (c2 := (490, lwL i, [.inr (some 0)], mm_ms0 mi h, 76, 12523)) 1 he154 rfl ?_
  refine gwp_call (ins := .invokevirtual 62) (len := 3) (tgt := 0) (k := 71) (as := [.inr (some 0)]) (pc2 := 493) (L2 := lwL i) (r := []) (S := mm_ms0 mi h) (cu := 76) (su := 12523) he154 he71 rfl rfl ?_
  refine gwp_mcl he71 ?_
  refine pr11 hG _ (fun a m1 h1 hP => ?_)
  show gwp X 154 (493, lwL i, [.inl a], mm_ms0 m1 h1, 76, 12523) Q
  refine gwp_steps (c2 := (494, lwL i, [.inr (some 69), .inl a], mm_ms0 m1 h1, 76, 12523)) 1 he154 rfl ?_
  refine gwp_call (ins := .invokevirtual 65) (len := 3) (tgt := 0) (k := 137) (as := [.inr (some 69)]) (pc2 := 497) (L2 := lwL i) (r := [.inl a]) (S := mm_ms0 m1 h1) (cu := 76) (su := 12523) he154 he137 rfl rfl ?_
  refine gwp_mcl he137 ?_
  refine hP _ (fun m2 h2 hG2 => ?_)
  show gwp X 154 (497, lwL i, [.inl a, .inl a], mm_ms0 m2 h2, 76, 12523) Q
  refine gwp_steps (c2 := (if a = a then 911 else 500, lwL i, [], mm_ms0 m2 h2, 76, 12523)) 1 he154 rfl ?_
  rw [if_pos rfl]
  exact hn m2 h2 hG2
theorem lc12 (hG : bothG mi h) (hi : 0 ≤ i ∧ i + 5 < X.1 ∧ X.1 ≤ 3072) (hr : ∀ j, -2147483648 ≤ X.2 j ∧ X.2 j < 2147483648) (hn : ∀ m2 h2, bothG m2 h2 → lwp X 911 i [] (mm_ms0 m2 h2) Q) : lwp X 502 i [] (mm_ms0 mi h) Q := by
  refine gwp_steps (c2 := (503, lwL i, [.inr (some 0)], mm_ms0 mi h, 76, 12523)) 1 he154 rfl ?_
  refine law_arg (j := 1) rfl rfl rfl rfl rfl (by omega) (mm_wi (by omega) (by omega)) ?_
  refine gwp_call (ins := .invokevirtual 66) (len := 3) (tgt := 0) (k := 72) (as := [.inr (some 0), .inl (X.2 (i + 1).toNat)]) (pc2 := 511) (L2 := lwL i) (r := []) (S := mm_ms0 mi h) (cu := 76) (su := 12523) he154 he72 rfl rfl ?_
  refine gwp_mcl he72 ?_
  refine pr12 hG _ (fun a m1 h1 hP => ?_)
  show gwp X 154 (511, lwL i, [.inl a], mm_ms0 m1 h1, 76, 12523) Q
  refine gwp_steps (c2 := (512, lwL i, [.inr (some 69), .inl a], mm_ms0 m1 h1, 76, 12523)) 1 he154 rfl ?_
  refine law_arg (j := 1) rfl rfl rfl rfl rfl (by omega) (mm_wi (by omega) (by omega)) ?_
  refine gwp_call (ins := .invokevirtual 70) (len := 3) (tgt := 0) (k := 138) (as := [.inr (some 69), .inl (X.2 (i + 1).toNat)]) (pc2 := 520) (L2 := lwL i) (r := [.inl a]) (S := mm_ms0 m1 h1) (cu := 76) (su := 12523) he154 he138 rfl rfl ?_
  refine gwp_mcl he138 ?_
  refine hP _ (fun m2 h2 hG2 => ?_)
  show gwp X 154 (520, lwL i, [.inl a, .inl a], mm_ms0 m2 h2, 76, 12523) Q
  refine gwp_steps (c2 := (if a = a then 911 else 523, lwL i, [], mm_ms0 m2 h2, 76, 12523)) 1 he154 rfl ?_
  rw [if_pos rfl]
  exact hn m2 h2 hG2
theorem lc13 (hG : bothG mi h) (hi : 0 ≤ i ∧ i + 5 < X.1 ∧ X.1 ≤ 3072) (hr : ∀ j, -2147483648 ≤ X.2 j ∧ X.2 j < 2147483648) (hn : ∀ m2 h2, bothG m2 h2 → lwp X 911 i [] (mm_ms0 m2 h2) Q) : lwp X 525 i [] (mm_ms0 mi h) Q := by
  refine gwp_steps (c2 := (526, lwL i, [.inr (some 0)], mm_ms0 mi h, 76, 12523)) 1 he154 rfl ?_
  refine law_arg (j := 1) rfl rfl rfl rfl rfl (by omega) (mm_wi (by omega) (by omega)) ?_
  refine law_arg (j := 2) rfl rfl rfl rfl rfl (by omega) (mm_wi (by omega) (by omega)) ?_
  refine gwp_call (ins := .invokevirtual 71) (len := 3) (tgt := 0) (k := 73) (as := [.inr (some 0), .inl (X.2 (i + 1).toNat), .inl (X.2 (i + 2).toNat)]) (pc2 := 539) (L2 := lwL i) (r := []) (S := mm_ms0 mi h) (cu := 76) (su := 12523) he154 he73 rfl rfl ?_
  refine gwp_mcl he73 ?_
  refine pr13 hG (hr _) _ (fun a m1 h1 hP => ?_)
  show gwp X 154 (539, lwL i, [.inl a], mm_ms0 m1 h1, 76, 12523) Q
  refine gwp_steps (c2 := (540, lwL i, [.inr (some 69), .inl a], mm_ms0 m1 h1, 76, 12523)) 1 he154 rfl ?_
  refine law_arg (j := 1) rfl rfl rfl rfl rfl (by omega) (mm_wi (by omega) (by omega)) ?_
  refine law_arg (j := 2) rfl rfl rfl rfl rfl (by omega) (mm_wi (by omega) (by omega)) ?_
  refine gwp_call (ins := .invokevirtual 74) (len := 3) (tgt := 0) (k := 139) (as := [.inr (some 69), .inl (X.2 (i + 1).toNat), .inl (X.2 (i + 2).toNat)]) (pc2 := 553) (L2 := lwL i) (r := [.inl a]) (S := mm_ms0 m1 h1) (cu := 76) (su := 12523) he154 he139 rfl rfl ?_
  refine gwp_mcl he139 ?_
  refine hP _ (fun m2 h2 hG2 => ?_)
  show gwp X 154 (553, lwL i, [.inl a, .inl a], mm_ms0 m2 h2, 76, 12523) Q
  refine gwp_steps (c2 := (if a = a then 911 else 556, lwL i, [], mm_ms0 m2 h2, 76, 12523)) 1 he154 rfl ?_
  rw [if_pos rfl]
  exact hn m2 h2 hG2
theorem lc14 (hG : bothG mi h) (hi : 0 ≤ i ∧ i + 5 < X.1 ∧ X.1 ≤ 3072) (hr : ∀ j, -2147483648 ≤ X.2 j ∧ X.2 j < 2147483648) (hn : ∀ m2 h2, bothG m2 h2 → lwp X 911 i [] (mm_ms0 m2 h2) Q) : lwp X 558 i [] (mm_ms0 mi h) Q := by
  refine gwp_steps (c2 := (559, lwL i, [.inr (some 0)], mm_ms0 mi h, 76, 12523)) 1 he154 rfl ?_
  refine law_arg (j := 1) rfl rfl rfl rfl rfl (by omega) (mm_wi (by omega) (by omega)) ?_
  refine law_arg (j := 2) rfl rfl rfl rfl rfl (by omega) (mm_wi (by omega) (by omega)) ?_
  refine law_arg (j := 3) rfl rfl rfl rfl rfl (by omega) (mm_wi (by omega) (by omega)) ?_
  refine gwp_call (ins := .invokevirtual 75) (len := 3) (tgt := 0) (k := 74) (as := [.inr (some 0), .inl (X.2 (i + 1).toNat), .inl (X.2 (i + 2).toNat), .inl (X.2 (i + 3).toNat)]) (pc2 := 577) (L2 := lwL i) (r := []) (S := mm_ms0 mi h) (cu := 76) (su := 12523) he154 he74 rfl rfl ?_
  refine gwp_mcl he74 ?_
  refine pr14 hG _ (fun a m1 h1 hP => ?_)
  show gwp X 154 (577, lwL i, [.inl a], mm_ms0 m1 h1, 76, 12523) Q
  refine gwp_steps (c2 := (578, lwL i, [.inr (some 69), .inl a], mm_ms0 m1 h1, 76, 12523)) 1 he154 rfl ?_
  refine law_arg (j := 1) rfl rfl rfl rfl rfl (by omega) (mm_wi (by omega) (by omega)) ?_
  refine law_arg (j := 2) rfl rfl rfl rfl rfl (by omega) (mm_wi (by omega) (by omega)) ?_
  refine law_arg (j := 3) rfl rfl rfl rfl rfl (by omega) (mm_wi (by omega) (by omega)) ?_
  refine gwp_call (ins := .invokevirtual 79) (len := 3) (tgt := 0) (k := 140) (as := [.inr (some 69), .inl (X.2 (i + 1).toNat), .inl (X.2 (i + 2).toNat), .inl (X.2 (i + 3).toNat)]) (pc2 := 596) (L2 := lwL i) (r := [.inl a]) (S := mm_ms0 m1 h1) (cu := 76) (su := 12523) he154 he140 rfl rfl ?_
  refine gwp_mcl he140 ?_
  refine hP _ (fun m2 h2 hG2 => ?_)
  show gwp X 154 (596, lwL i, [.inl a, .inl a], mm_ms0 m2 h2, 76, 12523) Q
  refine gwp_steps (c2 := (if a = a then 911 else 599, lwL i, [], mm_ms0 m2 h2, 76, 12523)) 1 he154 rfl ?_
  rw [if_pos rfl]
  exact hn m2 h2 hG2
theorem lc15 (hG : bothG mi h) (hi : 0 ≤ i ∧ i + 5 < X.1 ∧ X.1 ≤ 3072) (hr : ∀ j, -2147483648 ≤ X.2 j ∧ X.2 j < 2147483648) (hn : ∀ m2 h2, bothG m2 h2 → lwp X 911 i [] (mm_ms0 m2 h2) Q) : lwp X 601 i [] (mm_ms0 mi h) Q := by
  refine gwp_steps (c2 := (602, lwL i, [.inr (some 0)], mm_ms0 mi h, 76, 12523)) 1 he154 rfl ?_
  refine law_arg (j := 1) rfl rfl rfl rfl rfl (by omega) (mm_wi (by omega) (by omega)) ?_
  refine law_arg (j := 2) rfl rfl rfl rfl rfl (by omega) (mm_wi (by omega) (by omega)) ?_
  refine gwp_call (ins := .invokevirtual 80) (len := 3) (tgt := 0) (k := 75) (as := [.inr (some 0), .inl (X.2 (i + 1).toNat), .inl (X.2 (i + 2).toNat)]) (pc2 := 615) (L2 := lwL i) (r := []) (S := mm_ms0 mi h) (cu := 76) (su := 12523) he154 he75 rfl rfl ?_
  refine gwp_mcl he75 ?_
  refine pr15 hG _ (fun a m1 h1 hP => ?_)
  show gwp X 154 (615, lwL i, [.inl a], mm_ms0 m1 h1, 76, 12523) Q
  refine gwp_steps (c2 := (616, lwL i, [.inr (some 69), .inl a], mm_ms0 m1 h1, 76, 12523)) 1 he154 rfl ?_
  refine law_arg (j := 1) rfl rfl rfl rfl rfl (by omega) (mm_wi (by omega) (by omega)) ?_
  refine law_arg (j := 2) rfl rfl rfl rfl rfl (by omega) (mm_wi (by omega) (by omega)) ?_
  refine gwp_call (ins := .invokevirtual 83) (len := 3) (tgt := 0) (k := 141) (as := [.inr (some 69), .inl (X.2 (i + 1).toNat), .inl (X.2 (i + 2).toNat)]) (pc2 := 629) (L2 := lwL i) (r := [.inl a]) (S := mm_ms0 m1 h1) (cu := 76) (su := 12523) he154 he141 rfl rfl ?_
  refine gwp_mcl he141 ?_
  refine hP _ (fun m2 h2 hG2 => ?_)
  show gwp X 154 (629, lwL i, [.inl a, .inl a], mm_ms0 m2 h2, 76, 12523) Q
  refine gwp_steps (c2 := (if a = a then 911 else 632, lwL i, [], mm_ms0 m2 h2, 76, 12523)) 1 he154 rfl ?_
  rw [if_pos rfl]
  exact hn m2 h2 hG2
theorem lc16 (hG : bothG mi h) (hi : 0 ≤ i ∧ i + 5 < X.1 ∧ X.1 ≤ 3072) (hr : ∀ j, -2147483648 ≤ X.2 j ∧ X.2 j < 2147483648) (hn : ∀ m2 h2, bothG m2 h2 → lwp X 911 i [] (mm_ms0 m2 h2) Q) : lwp X 634 i [] (mm_ms0 mi h) Q := by
  refine gwp_steps (c2 := (635, lwL i, [.inr (some 0)], mm_ms0 mi h, 76, 12523)) 1 he154 rfl ?_
  refine law_arg (j := 1) rfl rfl rfl rfl rfl (by omega) (mm_wi (by omega) (by omega)) ?_
  refine law_arg (j := 2) rfl rfl rfl rfl rfl (by omega) (mm_wi (by omega) (by omega)) ?_
  refine gwp_call (ins := .invokevirtual 84) (len := 3) (tgt := 0) (k := 76) (as := [.inr (some 0), .inl (X.2 (i + 1).toNat), .inl (X.2 (i + 2).toNat)]) (pc2 := 648) (L2 := lwL i) (r := []) (S := mm_ms0 mi h) (cu := 76) (su := 12523) he154 he76 rfl rfl ?_
  refine gwp_mcl he76 ?_
  refine pr16 hG _ (fun a m1 h1 hP => ?_)
  show gwp X 154 (648, lwL i, [.inl a], mm_ms0 m1 h1, 76, 12523) Q
  refine gwp_steps (c2 := (649, lwL i, [.inr (some 69), .inl a], mm_ms0 m1 h1, 76, 12523)) 1 he154 rfl ?_
  refine law_arg (j := 1) rfl rfl rfl rfl rfl (by omega) (mm_wi (by omega) (by omega)) ?_
  refine law_arg (j := 2) rfl rfl rfl rfl rfl (by omega) (mm_wi (by omega) (by omega)) ?_
  refine gwp_call (ins := .invokevirtual 87) (len := 3) (tgt := 0) (k := 142) (as := [.inr (some 69), .inl (X.2 (i + 1).toNat), .inl (X.2 (i + 2).toNat)]) (pc2 := 662) (L2 := lwL i) (r := [.inl a]) (S := mm_ms0 m1 h1) (cu := 76) (su := 12523) he154 he142 rfl rfl ?_
  refine gwp_mcl he142 ?_
  refine hP _ (fun m2 h2 hG2 => ?_)
  show gwp X 154 (662, lwL i, [.inl a, .inl a], mm_ms0 m2 h2, 76, 12523) Q
  refine gwp_steps (c2 := (if a = a then 911 else 665, lwL i, [], mm_ms0 m2 h2, 76, 12523)) 1 he154 rfl ?_
  rw [if_pos rfl]
  exact hn m2 h2 hG2
theorem lc17 (hG : bothG mi h) (hi : 0 ≤ i ∧ i + 5 < X.1 ∧ X.1 ≤ 3072) (hr : ∀ j, -2147483648 ≤ X.2 j ∧ X.2 j < 2147483648) (hn : ∀ m2 h2, bothG m2 h2 → lwp X 911 i [] (mm_ms0 m2 h2) Q) : lwp X 667 i [] (mm_ms0 mi h) Q := by
  refine gwp_steps (c2 := (668, lwL i, [.inr (some 0)], mm_ms0 mi h, 76, 12523)) 1 he154 rfl ?_
  refine law_arg (j := 1) rfl rfl rfl rfl rfl (by omega) (mm_wi (by omega) (by omega)) ?_
  refine gwp_call (ins := .invokevirtual 88) (len := 3) (tgt := 0) (k := 77) (as := [.inr (some 0), .inl (X.2 (i + 1).toNat)]) (pc2 := 676) (L2 := lwL i) (r := []) (S := mm_ms0 mi h) (cu := 76) (su := 12523) he154 he77 rfl rfl ?_
  refine gwp_mcl he77 ?_
  refine pr17 hG _ (fun a m1 h1 hP => ?_)
  show gwp X 154 (676, lwL i, [.inl a], mm_ms0 m1 h1, 76, 12523) Q
  refine gwp_steps (c2 := (677, lwL i, [.inr (some 69), .inl a], mm_ms0 m1 h1, 76, 12523)) 1 he154 rfl ?_
  refine law_arg (j := 1) rfl rfl rfl rfl rfl (by omega) (mm_wi (by omega) (by omega)) ?_
  refine gwp_call (ins := .invokevirtual 91) (len := 3) (tgt := 0) (k := 143) (as := [.inr (some 69), .inl (X.2 (i + 1).toNat)]) (pc2 := 685) (L2 := lwL i) (r := [.inl a]) (S := mm_ms0 m1 h1) (cu := 76) (su := 12523) he154 he143 rfl rfl ?_
  refine gwp_mcl he143 ?_
  refine hP _ (fun m2 h2 hG2 => ?_)
  show gwp X 154 (685, lwL i, [.inl a, .inl a], mm_ms0 m2 h2, 76, 12523) Q
  refine gwp_steps (c2 := (if a = a then 911 else 688, lwL i, [], mm_ms0 m2 h2, 76, 12523)) 1 he154 rfl ?_
  rw [if_pos rfl]
  exact hn m2 h2 hG2
theorem lc18 (hG : bothG mi h) (hi : 0 ≤ i ∧ i + 5 < X.1 ∧ X.1 ≤ 3072) (hr : ∀ j, -2147483648 ≤ X.2 j ∧ X.2 j < 2147483648) (hn : ∀ m2 h2, bothG m2 h2 → lwp X 911 i [] (mm_ms0 m2 h2) Q) : lwp X 690 i [] (mm_ms0 mi h) Q := by
  refine gwp_steps (c2 := (691, lwL i, [.inr (some 0)], mm_ms0 mi h, 76, 12523)) 1 he154 rfl ?_
  refine law_arg (j := 1) rfl rfl rfl rfl rfl (by omega) (mm_wi (by omega) (by omega)) ?_
  refine gwp_call (ins := .invokevirtual 92) (len := 3) (tgt := 0) (k := 78) (as := [.inr (some 0), .inl (X.2 (i + 1).toNat)]) (pc2 := 699) (L2 := lwL i) (r := []) (S := mm_ms0 mi h) (cu := 76) (su := 12523) he154 he78 rfl rfl ?_
  refine gwp_mcl he78 ?_
  refine pr18 hG _ (fun a m1 h1 hP => ?_)
  show gwp X 154 (699, lwL i, [.inl a], mm_ms0 m1 h1, 76, 12523) Q
  refine gwp_steps (c2 := (700, lwL i, [.inr (some 69), .inl a], mm_ms0 m1 h1, 76, 12523)) 1 he154 rfl ?_
  refine law_arg (j := 1) rfl rfl rfl rfl rfl (by omega) (mm_wi (by omega) (by omega)) ?_
  refine gwp_call (ins := .invokevirtual 95) (len := 3) (tgt := 0) (k := 145) (as := [.inr (some 69), .inl (X.2 (i + 1).toNat)]) (pc2 := 708) (L2 := lwL i) (r := [.inl a]) (S := mm_ms0 m1 h1) (cu := 76) (su := 12523) he154 he145 rfl rfl ?_
  refine gwp_mcl he145 ?_
  refine hP _ (fun m2 h2 hG2 => ?_)
  show gwp X 154 (708, lwL i, [.inl a, .inl a], mm_ms0 m2 h2, 76, 12523) Q
  refine gwp_steps (c2 := (if a = a then 911 else 711, lwL i, [], mm_ms0 m2 h2, 76, 12523)) 1 he154 rfl ?_
  rw [if_pos rfl]
  exact hn m2 h2 hG2
theorem lc19 (hG : bothG mi h) (hi : 0 ≤ i ∧ i + 5 < X.1 ∧ X.1 ≤ 3072) (hr : ∀ j, -2147483648 ≤ X.2 j ∧ X.2 j < 2147483648) (hn : ∀ m2 h2, bothG m2 h2 → lwp X 911 i [] (mm_ms0 m2 h2) Q) : lwp X 713 i [] (mm_ms0 mi h) Q := by
  refine gwp_steps (c2 := (714, lwL i, [.inr (some 0)], mm_ms0 mi h, 76, 12523)) 1 he154 rfl ?_
  refine law_arg (j := 1) rfl rfl rfl rfl rfl (by omega) (mm_wi (by omega) (by omega)) ?_
  refine law_arg (j := 2) rfl rfl rfl rfl rfl (by omega) (mm_wi (by omega) (by omega)) ?_
  refine law_arg (j := 3) rfl rfl rfl rfl rfl (by omega) (mm_wi (by omega) (by omega)) ?_
  refine gwp_call (ins := .invokevirtual 96) (len := 3) (tgt := 0) (k := 79) (as := [.inr (some 0), .inl (X.2 (i + 1).toNat), .inl (X.2 (i + 2).toNat), .inl (X.2 (i + 3).toNat)]) (pc2 := 732) (L2 := lwL i) (r := []) (S := mm_ms0 mi h) (cu := 76) (su := 12523) he154 he79 rfl rfl ?_
  refine gwp_mcl he79 ?_
  refine pr19 hG _ (fun a m1 h1 hP => ?_)
  show gwp X 154 (732, lwL i, [.inl a], mm_ms0 m1 h1, 76, 12523) Q
  refine gwp_steps (c2 := (733, lwL i, [.inr (some 69), .inl a], mm_ms0 m1 h1, 76, 12523)) 1 he154 rfl ?_
  refine law_arg (j := 1) rfl rfl rfl rfl rfl (by omega) (mm_wi (by omega) (by omega)) ?_
  refine law_arg (j := 2) rfl rfl rfl rfl rfl (by omega) (mm_wi (by omega) (by omega)) ?_
  refine law_arg (j := 3) rfl rfl rfl rfl rfl (by omega) (mm_wi (by omega) (by omega)) ?_
  refine gwp_call (ins := .invokevirtual 99) (len := 3) (tgt := 0) (k := 146) (as := [.inr (some 69), .inl (X.2 (i + 1).toNat), .inl (X.2 (i + 2).toNat), .inl (X.2 (i + 3).toNat)]) (pc2 := 751) (L2 := lwL i) (r := [.inl a]) (S := mm_ms0 m1 h1) (cu := 76) (su := 12523) he154 he146 rfl rfl ?_
  refine gwp_mcl he146 ?_
  refine hP _ (fun m2 h2 hG2 => ?_)
  show gwp X 154 (751, lwL i, [.inl a, .inl a], mm_ms0 m2 h2, 76, 12523) Q
  refine gwp_steps (c2 := (if a = a then 911 else 754, lwL i, [], mm_ms0 m2 h2, 76, 12523)) 1 he154 rfl ?_
  rw [if_pos rfl]
  exact hn m2 h2 hG2
theorem lc20 (hG : bothG mi h) (hi : 0 ≤ i ∧ i + 5 < X.1 ∧ X.1 ≤ 3072) (hr : ∀ j, -2147483648 ≤ X.2 j ∧ X.2 j < 2147483648) (hn : ∀ m2 h2, bothG m2 h2 → lwp X 911 i [] (mm_ms0 m2 h2) Q) : lwp X 756 i [] (mm_ms0 mi h) Q := by
  refine gwp_steps (c2 := (757, lwL i, [.inr (some 0)], mm_ms0 mi h, 76, 12523)) 1 he154 rfl ?_
  refine law_arg (j := 1) rfl rfl rfl rfl rfl (by omega) (mm_wi (by omega) (by omega)) ?_
  refine law_arg (j := 2) rfl rfl rfl rfl rfl (by omega) (mm_wi (by omega) (by omega)) ?_
  refine gwp_call (ins := .invokevirtual 100) (len := 3) (tgt := 0) (k := 80) (as := [.inr (some 0), .inl (X.2 (i + 1).toNat), .inl (X.2 (i + 2).toNat)]) (pc2 := 770) (L2 := lwL i) (r := []) (S := mm_ms0 mi h) (cu := 76) (su := 12523) he154 he80 rfl rfl ?_
  refine gwp_mcl he80 ?_
  refine pr20 hG _ (fun a m1 h1 hP => ?_)
  show gwp X 154 (770, lwL i, [.inl a], mm_ms0 m1 h1, 76, 12523) Q
  refine gwp_steps (c2 := (771, lwL i, [.inr (some 69), .inl a], mm_ms0 m1 h1, 76, 12523)) 1 he154 rfl ?_
  refine law_arg (j := 1) rfl rfl rfl rfl rfl (by omega) (mm_wi (by omega) (by omega)) ?_
  refine law_arg (j := 2) rfl rfl rfl rfl rfl (by omega) (mm_wi (by omega) (by omega)) ?_
  refine gwp_call (ins := .invokevirtual 103) (len := 3) (tgt := 0) (k := 147) (as := [.inr (some 69), .inl (X.2 (i + 1).toNat), .inl (X.2 (i + 2).toNat)]) (pc2 := 784) (L2 := lwL i) (r := [.inl a]) (S := mm_ms0 m1 h1) (cu := 76) (su := 12523) he154 he147 rfl rfl ?_
  refine gwp_mcl he147 ?_
  refine hP _ (fun m2 h2 hG2 => ?_)
  show gwp X 154 (784, lwL i, [.inl a, .inl a], mm_ms0 m2 h2, 76, 12523) Q
  refine gwp_steps (c2 := (if a = a then 911 else 787, lwL i, [], mm_ms0 m2 h2, 76, 12523)) 1 he154 rfl ?_
  rw [if_pos rfl]
  exact hn m2 h2 hG2
theorem lc21 (hG : bothG mi h) (hi : 0 ≤ i ∧ i + 5 < X.1 ∧ X.1 ≤ 3072) (hr : ∀ j, -2147483648 ≤ X.2 j ∧ X.2 j < 2147483648) (hn : ∀ m2 h2, bothG m2 h2 → lwp X 911 i [] (mm_ms0 m2 h2) Q) : lwp X 789 i [] (mm_ms0 mi h) Q := by
  refine gwp_steps (c2 := (790, lwL i, [.inr (some 0)], mm_ms0 mi h, 76, 12523)) 1 he154 rfl ?_
  refine law_arg (j := 1) rfl rfl rfl rfl rfl (by omega) (mm_wi (by omega) (by omega)) ?_
  refine law_arg (j := 2) rfl rfl rfl rfl rfl (by omega) (mm_wi (by omega) (by omega)) ?_
  refine gwp_call (ins := .invokevirtual 104) (len := 3) (tgt := 0) (k := 81) (as := [.inr (some 0), .inl (X.2 (i + 1).toNat), .inl (X.2 (i + 2).toNat)]) (pc2 := 803) (L2 := lwL i) (r := []) (S := mm_ms0 mi h) (cu := 76) (su := 12523) he154 he81 rfl rfl ?_
  refine gwp_mcl he81 ?_
  refine pr21 hG _ (fun a m1 h1 hP => ?_)
  show gwp X 154 (803, lwL i, [.inl a], mm_ms0 m1 h1, 76, 12523) Q
  refine gwp_steps (c2 := (804, lwL i, [.inr (some 69), .inl a], mm_ms0 m1 h1, 76, 12523)) 1 he154 rfl ?_
  refine law_arg (j := 1) rfl rfl rfl rfl rfl (by omega) (mm_wi (by omega) (by omega)) ?_
  refine law_arg (j := 2) rfl rfl rfl rfl rfl (by omega) (mm_wi (by omega) (by omega)) ?_
  refine gwp_call (ins := .invokevirtual 107) (len := 3) (tgt := 0) (k := 148) (as := [.inr (some 69), .inl (X.2 (i + 1).toNat), .inl (X.2 (i + 2).toNat)]) (pc2 := 817) (L2 := lwL i) (r := [.inl a]) (S := mm_ms0 m1 h1) (cu := 76) (su := 12523) he154 he148 rfl rfl ?_
  refine gwp_mcl he148 ?_
  refine hP _ (fun m2 h2 hG2 => ?_)
  show gwp X 154 (817, lwL i, [.inl a, .inl a], mm_ms0 m2 h2, 76, 12523) Q
  refine gwp_steps (c2 := (if a = a then 911 else 820, lwL i, [], mm_ms0 m2 h2, 76, 12523)) 1 he154 rfl ?_
  rw [if_pos rfl]
  exact hn m2 h2 hG2
theorem lc22 (hG : bothG mi h) (hi : 0 ≤ i ∧ i + 5 < X.1 ∧ X.1 ≤ 3072) (hr : ∀ j, -2147483648 ≤ X.2 j ∧ X.2 j < 2147483648) (hn : ∀ m2 h2, bothG m2 h2 → lwp X 911 i [] (mm_ms0 m2 h2) Q) : lwp X 822 i [] (mm_ms0 mi h) Q := by
  refine gwp_steps (c2 := (823, lwL i, [.inr (some 0)], mm_ms0 mi h, 76, 12523)) 1 he154 rfl ?_
  refine law_arg (j := 1) rfl rfl rfl rfl rfl (by omega) (mm_wi (by omega) (by omega)) ?_
  refine law_arg (j := 2) rfl rfl rfl rfl rfl (by omega) (mm_wi (by omega) (by omega)) ?_
  refine gwp_call (ins := .invokevirtual 108) (len := 3) (tgt := 0) (k := 82) (as := [.inr (some 0), .inl (X.2 (i + 1).toNat), .inl (X.2 (i + 2).toNat)]) (pc2 := 836) (L2 := lwL i) (r := []) (S := mm_ms0 mi h) (cu := 76) (su := 12523) he154 he82 rfl rfl ?_
  refine gwp_mcl he82 ?_
  refine pr22 hG _ (fun a m1 h1 hP => ?_)
  show gwp X 154 (836, lwL i, [.inl a], mm_ms0 m1 h1, 76, 12523) Q
  refine gwp_steps (c2 := (837, lwL i, [.inr (some 69), .inl a], mm_ms0 m1 h1, 76, 12523)) 1 he154 rfl ?_
  refine law_arg (j := 1) rfl rfl rfl rfl rfl (by omega) (mm_wi (by omega) (by omega)) ?_
  refine law_arg (j := 2) rfl rfl rfl rfl rfl (by omega) (mm_wi (by omega) (by omega)) ?_
  refine gwp_call (ins := .invokevirtual 111) (len := 3) (tgt := 0) (k := 149) (as := [.inr (some 69), .inl (X.2 (i + 1).toNat), .inl (X.2 (i + 2).toNat)]) (pc2 := 850) (L2 := lwL i) (r := [.inl a]) (S := mm_ms0 m1 h1) (cu := 76) (su := 12523) he154 he149 rfl rfl ?_
  refine gwp_mcl he149 ?_
  refine hP _ (fun m2 h2 hG2 => ?_)
  show gwp X 154 (850, lwL i, [.inl a, .inl a], mm_ms0 m2 h2, 76, 12523) Q
  refine gwp_steps (c2 := (if a = a then 911 else 853, lwL i, [], mm_ms0 m2 h2, 76, 12523)) 1 he154 rfl ?_
  rw [if_pos rfl]
  exact hn m2 h2 hG2
theorem lc23 (hG : bothG mi h) (hi : 0 ≤ i ∧ i + 5 < X.1 ∧ X.1 ≤ 3072) (hr : ∀ j, -2147483648 ≤ X.2 j ∧ X.2 j < 2147483648) (hn : ∀ m2 h2, bothG m2 h2 → lwp X 911 i [] (mm_ms0 m2 h2) Q) : lwp X 855 i [] (mm_ms0 mi h) Q := by
  refine gwp_steps (c2 := (856, lwL i, [.inr (some 0)], mm_ms0 mi h, 76, 12523)) 1 he154 rfl ?_
  refine law_arg (j := 1) rfl rfl rfl rfl rfl (by omega) (mm_wi (by omega) (by omega)) ?_
  refine law_arg (j := 2) rfl rfl rfl rfl rfl (by omega) (mm_wi (by omega) (by omega)) ?_
  refine gwp_call (ins := .invokevirtual 112) (len := 3) (tgt := 0) (k := 83) (as := [.inr (some 0), .inl (X.2 (i + 1).toNat), .inl (X.2 (i + 2).toNat)]) (pc2 := 869) (L2 := lwL i) (r := []) (S := mm_ms0 mi h) (cu := 76) (su := 12523) he154 he83 rfl rfl ?_
  refine gwp_mcl he83 ?_
  refine pr23 hG _ (fun a m1 h1 hP => ?_)
  show gwp X 154 (869, lwL i, [.inl a], mm_ms0 m1 h1, 76, 12523) Q
  refine gwp_steps (c2 := (870, lwL i, [.inr (some 69), .inl a], mm_ms0 m1 h1, 76, 12523)) 1 he154 rfl ?_
  refine law_arg (j := 1) rfl rfl rfl rfl rfl (by omega) (mm_wi (by omega) (by omega)) ?_
  refine law_arg (j := 2) rfl rfl rfl rfl rfl (by omega) (mm_wi (by omega) (by omega)) ?_
  refine gwp_call (ins := .invokevirtual 115) (len := 3) (tgt := 0) (k := 151) (as := [.inr (some 69), .inl (X.2 (i + 1).toNat), .inl (X.2 (i + 2).toNat)]) (pc2 := 883) (L2 := lwL i) (r := [.inl a]) (S := mm_ms0 m1 h1) (cu := 76) (su := 12523) he154 he151 rfl rfl ?_
  refine gwp_mcl he151 ?_
  refine hP _ (fun m2 h2 hG2 => ?_)
  show gwp X 154 (883, lwL i, [.inl a, .inl a], mm_ms0 m2 h2, 76, 12523) Q
  refine gwp_steps (c2 := (if a = a then 911 else 886, lwL i, [], mm_ms0 m2 h2, 76, 12523)) 1 he154 rfl ?_
  rw [if_pos rfl]
  exact hn m2 h2 hG2
theorem lc24 (hG : bothG mi h) (hi : 0 ≤ i ∧ i + 5 < X.1 ∧ X.1 ≤ 3072) (hr : ∀ j, -2147483648 ≤ X.2 j ∧ X.2 j < 2147483648) (hn : ∀ m2 h2, bothG m2 h2 → lwp X 911 i [] (mm_ms0 m2 h2) Q) : lwp X 888 i [] (mm_ms0 mi h) Q := by
  refine gwp_steps (c2 := (889, lwL i, [.inr (some 0)], mm_ms0 mi h, 76, 12523)) 1 he154 rfl ?_
  refine law_arg (j := 1) rfl rfl rfl rfl rfl (by omega) (mm_wi (by omega) (by omega)) ?_
  refine gwp_call (ins := .invokevirtual 116) (len := 3) (tgt := 0) (k := 84) (as := [.inr (some 0), .inl (X.2 (i + 1).toNat)]) (pc2 := 897) (L2 := lwL i) (r := []) (S := mm_ms0 mi h) (cu := 76) (su := 12523) he154 he84 rfl rfl ?_
  refine gwp_mcl he84 ?_
  refine pr24 hG _ (fun a m1 h1 hP => ?_)
  show gwp X 154 (897, lwL i, [.inl a], mm_ms0 m1 h1, 76, 12523) Q
  refine gwp_steps (c2 := (898, lwL i, [.inr (some 69), .inl a], mm_ms0 m1 h1, 76, 12523)) 1 he154 rfl ?_
  refine law_arg (j := 1) rfl rfl rfl rfl rfl (by omega) (mm_wi (by omega) (by omega)) ?_
  refine gwp_call (ins := .invokevirtual 119) (len := 3) (tgt := 0) (k := 152) (as := [.inr (some 69), .inl (X.2 (i + 1).toNat)]) (pc2 := 906) (L2 := lwL i) (r := [.inl a]) (S := mm_ms0 m1 h1) (cu := 76) (su := 12523) he154 he152 rfl rfl ?_
  refine gwp_mcl he152 ?_
  refine hP _ (fun m2 h2 hG2 => ?_)
  show gwp X 154 (906, lwL i, [.inl a, .inl a], mm_ms0 m2 h2, 76, 12523) Q
  refine gwp_steps (c2 := (if a = a then 911 else 909, lwL i, [], mm_ms0 m2 h2, 76, 12523)) 1 he154 rfl ?_
  rw [if_pos rfl]
  exact hn m2 h2 hG2
end LW
