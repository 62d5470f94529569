-- THE CLASS: more reads of a State
section CT
variable {X : Nat × (Nat → Int)} {mi : mm_M} {h : mm_H} {Q : Option mm_V → mm_S → Prop} {B : Int → Int}
/-- the rows of a State, as the block has them -/
theorem cRow (hS : cS mi 1 B) {t j : Nat} (ht : t < 6) (hj : (j : Int) < cRc mi 1 t) : kIsRow B t (cKy mi 1 t j) ∧ kV B (100 * t + cKy mi 1 t j) 0 = cVl mi 1 t j 0 ∧ (∀ c, c ≠ 0 → kV B (100 * t + cKy mi 1 t j) c = cVl mi 1 t j 1) ∧ (-1 ≤ cVl mi 1 t j 0 ∧ cVl mi 1 t j 0 ≤ 99) ∧ (-1 ≤ cVl mi 1 t j 1 ∧ cVl mi 1 t j 1 ≤ 99) ∧ j < 20 := by
  obtain ⟨hrc, hz, hrow, hso, hco⟩ := hS.2.2.2.2 t ht
  obtain ⟨r1, r2, r3, r4⟩ := hrow j hj
  refine ⟨⟨?_, by omega, by omega⟩, ?_, fun c hc => ?_, r3, r4, by omega⟩
  · by_cases q : B 0 ≤ t
    · have := hz q
      omega
    · omega
  · unfold kV
    rw [if_pos rfl, r2]
    omega
  · unfold kV
    rw [if_neg hc, r2]
    omega
theorem sp40 {t j : Nat} (ht : t < 6) (hj : j < 20) {c : Int} (hc : c = 0 ∨ c = 1) : mcl X 40 [.inr (some 1), .inl (20 * t + j), .inl c] (mm_ms0 mi h) Q = Q (some (.inl (cVl mi 1 t j c.toNat))) (mm_ms0 mi h) := by
  rw [c40, b40_0, mm_wi (z := (20 * (t : Int) + j) * 2) (by omega) (by omega), mm_wi (z := (20 * (t : Int) + j) * 2 + c) (by omega) (by omega), mm_andT (by omega), b40_10]
  have : mi 7 ((20 * (t : Int) + j) * 2 + c).toNat = cVl mi 1 t j c.toNat := congrArg (mi 7) (by omega)
  rw [this]
theorem kRo_at {B : Int → Int} (hI : bInv B) {r : Nat} (hr : (r : Int) < B 1) : kRo B (kOf B r 0) (kOf B r 2) = r := by
  have hu := hI.2.2.2.1.1
  have key : ∀ n : Nat, (n : Int) ≤ B 1 → r < n → kRefN B (kOf B r 0) (kOf B r 2) n = r := by
    intro n
    induction n with
    | zero => intro _ h; omega
    | succ n ih =>
      intro h1 h2
      unfold kRefN
      by_cases q : kOf B n 0 = kOf B r 0 ∧ kOf B n 2 = kOf B r 2
      · rw [if_pos q, hu n r (by omega) hr q.1 q.2]
      · rw [if_neg q]
        refine ih (by omega) ?_
        by_cases e : r = n
        · rw [e] at q; exact absurd ⟨rfl, rfl⟩ q
        · omega
  have w1 := hI.1.2.1
  exact key (B 1).toNat (by omega) (by omega)
/-- a column's reference -/
theorem kRo_of {B : Int → Int} (hI : bInv B) {t c : Int} (hc : 0 ≤ c ∧ c < kCols B t) : (0 ≤ kRo B t c ∧ kRo B t c < B 1) ∧ kOf B (kRo B t c) 0 = t ∧ kOf B (kRo B t c) 2 = c := by
  obtain ⟨r, h1, h2, h3⟩ := hI.2.2.1 t c hc.1 hc.2
  have := kRo_at hI h1
  rw [h2, h3] at this
  rw [this]
  exact ⟨⟨by omega, h1⟩, h2, h3⟩
theorem sp42 (hS : cS mi 1 B) {t c : Int} (hc : cHasC B t c) : mcl X 42 [.inr (some 1), .inl t, .inl c] (mm_ms0 mi h) Q = Q (some (.inl (kRo B t c))) (mm_ms0 mi h) := by
  have w0 := hS.1.1.1
  have h2 := hS.1.2.1 t
  obtain ⟨k1, k2, k3⟩ := kRo_of hS.1 hc.2
  rw [c42, b42_0, mm_wi (z := t * 2) (by omega) (by omega), mm_wi (z := t * 2 + c) (by omega) (by omega), mm_andT (by omega), b42_10]
  have := hS.2.2.2.1.2 (kRo B t c).toNat (by omega)
  rw [show (((kRo B t c).toNat : Nat) : Int) = kRo B t c by omega, k2, k3, Int.mul_comm 2 t] at this
  rw [show mi 4 (t * 2 + c).toNat = kRo B t c from this]
end CT
