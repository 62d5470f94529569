def mm_law : Nat := 154
def mm_S0 : mm_S := ([], fun _ _ => 0, fun _ _ => none)
theorem mm_lawOK (L : Nat) (xs : Nat → Int) (hL : L ≤ 3072) (hxs : ∀ j, mm_inr (.inl (xs j))) : ∃ n S1, mm_run mt (L, xs) n mm_law (0, mm_entry mi_L_law [.inr none], [], mm_S0, 0, 0) = some (some (.inl 1), S1) := sorry
theorem mt_ok : ∀ e ∈ mt_ents, ∃ p, mm_okE e p = true := sorry
