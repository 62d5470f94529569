def mm_S0 : mm_S := ([], fun _ _ => 0, fun _ _ => none)
theorem ml_lawOK (L : Nat) (xs : Nat → Int) (hL : L ≤ 260) (hx : ∀ j, -2147483648 ≤ xs j ∧ xs j < 2147483648) : ∃ (n : Nat) (S1 : mm_S), ml_run (L, xs) n 2 ((0, mm_entry mi_L_law [.inr none], [], mm_S0, 0, 0), [], []) = some (.inl (.inl 1), S1) := sorry
