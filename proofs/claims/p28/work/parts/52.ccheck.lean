-- THE CLASS: what is checked ahead of a change
section CU
variable {X : Nat × (Nat → Int)} {mi : mm_M} {h : mm_H} {Q : Option mm_V → mm_S → Prop} {B : Int → Int}
theorem sp86 {v : Int} : mcl X 86 [.inl v] (mm_ms0 mi h) Q = Q (some (.inl (if 0 ≤ v ∧ v ≤ 4 then 1 else 0))) (mm_ms0 mi h) := by
  rw [c86, b86_0]
  by_cases q1 : v < 0
  · rw [if_pos q1, b86_13, b86_14, if_neg (by omega)]
    exact mm_andT (Or.inl rfl)
  · rw [if_neg q1, b86_4]
    by_cases q2 : 4 < v
    · rw [if_pos q2, b86_13, b86_14, if_neg (by omega)]
      exact mm_andT (Or.inl rfl)
    · rw [if_neg q2, b86_9, b86_14, if_pos (by omega)]
      exact mm_andT (Or.inr rfl)
theorem sp87 {v : Int} : mcl X 87 [.inl v] (mm_ms0 mi h) Q = Q (some (.inl (if 0 ≤ v ∧ v ≤ 99 then 1 else 0))) (mm_ms0 mi h) := by
  rw [c87, b87_0]
  by_cases q1 : v < 0
  · rw [if_pos q1, b87_14, b87_15, if_neg (by omega)]
    exact mm_andT (Or.inl rfl)
  · rw [if_neg q1, b87_4]
    by_cases q2 : v < 100
    · rw [if_pos q2, b87_10, b87_15, if_pos (by omega)]
      exact mm_andT (Or.inr rfl)
    · rw [if_neg q2, b87_14, b87_15, if_neg (by omega)]
      exact mm_andT (Or.inl rfl)
theorem sp88 {v : Int} : mcl X 88 [.inl v] (mm_ms0 mi h) Q = Q (some (.inl (if -1 ≤ v ∧ v ≤ 99 then 1 else 0))) (mm_ms0 mi h) := by
  rw [c88, b88_0]
  by_cases q1 : v = -1
  · rw [if_pos q1, b88_12, b88_17, if_pos (by omega)]
    exact mm_andT (Or.inr rfl)
  · rw [if_neg q1, b88_5, sp87, mm_psh_i, b88_9, mm_ite0]
    by_cases q2 : 0 ≤ v ∧ v ≤ 99
    · rw [if_pos q2, b88_12, b88_17, if_pos (by omega)]
      exact mm_andT (Or.inr rfl)
    · rw [if_neg q2, b88_16, b88_17, if_neg (by omega)]
      exact mm_andT (Or.inl rfl)
theorem sp89 {t k : Int} (ht : 0 ≤ t ∧ t < 6) (hk : -1 ≤ k ∧ k ≤ 100) : mcl X 89 [.inl t, .inl k] (mm_ms0 mi h) Q = Q (some (.inl (100 * t + k))) (mm_ms0 mi h) := by
  rw [c89, b89_0, mm_wi (z := t * 100) (by omega) (by omega), mm_wi (z := t * 100 + k) (by omega) (by omega), Int.mul_comm]
/-- a value that a column takes -/
abbrev cFit (B : Int → Int) (t c v : Int) : Prop := v = -1 ∨ (cHasC B t c ∧ 0 ≤ v ∧ v ≤ 99)
theorem sp52 (hS : cS mi 1 B) {t c v : Int} : mcl X 52 [.inr (some 1), .inl t, .inl c, .inl v] (mm_ms0 mi h) Q = Q (some (.inl (if cFit B t c v then 1 else 0))) (mm_ms0 mi h) := by
  rw [c52, b52_0]
  by_cases q1 : v = -1
  · rw [if_pos q1, b52_21, b52_26, if_pos (Or.inl q1)]
    exact mm_andT (Or.inr rfl)
  · rw [if_neg q1, b52_5, sp37 hS, mm_psh_i, b52_11, mm_ite0]
    by_cases q2 : cHasC B t c
    · rw [if_pos q2, b52_14, sp87, mm_psh_i, b52_18, mm_ite0]
      by_cases q3 : 0 ≤ v ∧ v ≤ 99
      · rw [if_pos q3, b52_21, b52_26, if_pos (Or.inr ⟨q2, q3⟩)]
        exact mm_andT (Or.inr rfl)
      · rw [if_neg q3, b52_25, b52_26, if_neg (fun z => z.elim q1 (fun y => q3 y.2))]
        exact mm_andT (Or.inl rfl)
    · rw [if_neg q2, b52_25, b52_26, if_neg (fun z => z.elim q1 (fun y => q2 y.1))]
      exact mm_andT (Or.inl rfl)
abbrev cMis (B : Int → Int) (t c v : Int) : Prop := v = -1 ∧ cHasC B t c ∧ kOf B (kRo B t c) 4 = 1
theorem sp53 (hS : cS mi 1 B) {t c v : Int} : mcl X 53 [.inr (some 1), .inl t, .inl c, .inl v] (mm_ms0 mi h) Q = Q (some (.inl (if cMis B t c v then 1 else 0))) (mm_ms0 mi h) := by
  rw [c53, b53_0]
  by_cases q1 : v = -1
  · rw [if_pos q1, b53_5, sp37 hS, mm_psh_i, b53_11, mm_ite0]
    by_cases q2 : cHasC B t c
    · have hr := (kRo_of hS.1 q2.2).1
      rw [if_pos q2, b53_14, sp42 hS q2, mm_psh_i, b53_21, sp41 hS hr (by omega), mm_psh_i, b53_25]
      by_cases q3 : kOf B (kRo B t c) 4 = 1
      · rw [if_pos q3, b53_29, b53_34, if_pos ⟨q1, q2, q3⟩]
        exact mm_andT (Or.inr rfl)
      · rw [if_neg q3, b53_33, b53_34, if_neg (fun z => q3 z.2.2)]
        exact mm_andT (Or.inl rfl)
    · rw [if_neg q2, b53_33, b53_34, if_neg (fun z => q2 z.2.1)]
      exact mm_andT (Or.inl rfl)
  · rw [if_neg q1, b53_33, b53_34, if_neg (fun z => q1 z.1)]
    exact mm_andT (Or.inl rfl)
/-- no parent: the row itself may be its parent -/
abbrev cNoP (B : Int → Int) (t k c v : Int) : Prop := v ≠ -1 ∧ cHasC B t c ∧ ¬ (kOf B (kRo B t c) 1 = t ∧ v = k) ∧ ¬ kIsRow B (kOf B (kRo B t c) 1) v
theorem sp54 (hS : cS mi 1 B) {t k c v : Int} (hq : Q (some (.inl (if cNoP B t k c v then 1 else 0))) (mm_ms0 mi h)) : mcl X 54 [.inr (some 1), .inl t, .inl k, .inl c, .inl v] (mm_ms0 mi h) Q := by
  rw [c54, b54_0]
  by_cases q1 : v = -1
  · rw [if_neg (fun z => z.1 q1)] at hq
    rw [if_pos q1, b54_15]
    exact hq
  · rw [if_neg q1, b54_6, sp37 hS, mm_psh_i, b54_12, mm_ite0]
    by_cases q2 : cHasC B t c
    · have hr := (kRo_of hS.1 q2.2).1
      rw [if_pos q2, b54_17, sp42 hS q2, mm_psh_i, b54_24, sp41 hS hr (by omega), mm_psh_i, b54_28]
      have out : ∀ u : Int, u = 0 → ¬ (kOf B (kRo B t c) 1 = t ∧ v = k) → mwp X 54 47 [some (.inr (some 1)), some (.inl t), some (.inl k), some (.inl c), some (.inl v), some (.inl (kOf B (kRo B t c) 1)), none] [.inl u] (mm_ms0 mi h) Q := by
        intro u hu hno
        subst hu
        rw [b54_47, if_pos rfl, b54_54]
        refine sp38 hS ?_
        rw [mm_psh_i, b54_62, mm_ite0]
        by_cases q5 : kIsRow B (kOf B (kRo B t c) 1) v
        · rw [if_neg (fun z => z.2.2.2 q5)] at hq
          rw [if_pos q5, b54_69, b54_70]
          exact ⟨Or.inl rfl, hq⟩
        · rw [if_pos ⟨q1, q2, hno, q5⟩] at hq
          rw [if_neg q5, b54_65, b54_70]
          exact ⟨Or.inr rfl, hq⟩
      by_cases q3 : kOf B (kRo B t c) 1 = t
      · rw [if_pos q3, b54_36]
        by_cases q4 : v = k
        · rw [if_neg (fun z => z.2.2.1 ⟨q3, q4⟩)] at hq
          rw [if_pos q4, b54_42, b54_47, if_neg (by omega), b54_69, b54_70]
          exact ⟨Or.inl rfl, hq⟩
        · rw [if_neg q4, b54_46]
          exact out 0 rfl (fun z => q4 z.2)
      · rw [if_neg q3, b54_46]
        exact out 0 rfl (fun z => q3 z.1)
    · rw [if_neg (fun z => q2 z.2.1)] at hq
      rw [if_neg q2, b54_15]
      exact hq
end CU
