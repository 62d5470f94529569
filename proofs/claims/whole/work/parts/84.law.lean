-- THE LAW: its frames
abbrev lwL (i : Int) : mm_L := [some (.inr none), some (.inr (some 0)), some (.inr (some 69)), some (.inl i)]
abbrev lwp (X : Nat × (Nat → Int)) (pc : Nat) (i : Int) (st : List mm_V) (S : mm_S) (Q : Option mm_V → mm_S → Prop) : Prop := gwp X 154 (pc, lwL i, st, S, 76, 12523) Q
section LA
variable {X : Nat × (Nat → Int)} {S : mm_S} {Q : Option mm_V → mm_S → Prop} {i j : Int} {pc : Nat} {st : List mm_V}
/-- an int of the script -/
theorem law_arg (h1 : mm_at mk_L_law pc = some (.aload_n 0, 1, 0)) (h2 : mm_at mk_L_law (pc + 1) = some (.iload_n 3, 1, 0)) (h3 : mm_at mk_L_law (pc + 2) = some (.iconst j, 1, 0)) (h4 : mm_at mk_L_law (pc + 3) = some (.iadd, 1, 0)) (h5 : mm_at mk_L_law (pc + 4) = some (.iaload, 1, 0)) (hx : 0 ≤ i + j ∧ i + j < X.1) (hw : mm_w (i + j) = i + j)
    (h : lwp X (pc + 5) i (.inl (X.2 (i + j).toNat) :: st) S Q) : lwp X pc i st S Q := by
  refine gwp_step1 (c2 := (pc + 1, lwL i, .inr none :: st, S, 76, 12523)) he154 h1 rfl ?_
  refine gwp_step1 (c2 := (pc + 2, lwL i, .inl i :: .inr none :: st, S, 76, 12523)) he154 h2 rfl ?_
  refine gwp_step1 (c2 := (pc + 3, lwL i, .inl j :: .inl i :: .inr none :: st, S, 76, 12523)) he154 h3 rfl ?_
  refine gwp_step1 (c2 := (pc + 4, lwL i, .inl (mm_w (i + j)) :: .inr none :: st, S, 76, 12523)) he154 h4 rfl ?_
  rw [hw]
  exact gwp_step1 (c2 := (pc + 5, lwL i, .inl (X.2 (i + j).toNat) :: st, S, 76, 12523)) he154 h5 (if_pos hx) h
theorem law_sel (h1 : mm_at mk_L_law pc = some (.aload_n 0, 1, 0)) (h2 : mm_at mk_L_law (pc + 1) = some (.iload_n 3, 1, 0)) (h5 : mm_at mk_L_law (pc + 2) = some (.iaload, 1, 0)) (hx : 0 ≤ i ∧ i < X.1)
    (h : lwp X (pc + 3) i (.inl (X.2 i.toNat) :: st) S Q) : lwp X pc i st S Q := by
  refine gwp_step1 (c2 := (pc + 1, lwL i, .inr none :: st, S, 76, 12523)) he154 h1 rfl ?_
  refine gwp_step1 (c2 := (pc + 2, lwL i, .inl i :: .inr none :: st, S, 76, 12523)) he154 h2 rfl ?_
  exact gwp_step1 (c2 := (pc + 3, lwL i, .inl (X.2 i.toNat) :: st, S, 76, 12523)) he154 h5 (if_pos hx) h
end LA
