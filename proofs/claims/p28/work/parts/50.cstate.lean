-- THE CLASS: a State object that holds what a block holds
def cRc (mi : mm_M) (a t : Nat) : Int := mi (a + 1) t
def cKy (mi : mm_M) (a t j : Nat) : Int := mi (a + 5) (20 * t + j)
def cVl (mi : mm_M) (a t j c : Nat) : Int := mi (a + 6) (2 * (20 * t + j) + c)
def cHd (mi : mm_M) (a : Nat) (B : Int → Int) : Prop := mi a 0 = B 0 ∧ mi a 1 = B 1 ∧ mi a 9 = B 5 ∧ mi a 10 = B 2 ∧ mi a 11 = B 3 ∧ mi a 12 = B 4
def cFa (mi : mm_M) (a : Nat) (B : Int → Int) : Prop := (∀ i : Nat, (i : Int) < 6 * B 1 → mi (a + 4) i = B (6 + i)) ∧ (∀ i : Nat, (i : Int) < B 5 → mi (a + 7) i = B (78 + i))
def cCo (mi : mm_M) (a : Nat) (B : Int → Int) : Prop := (∀ t : Nat, t < 6 → mi (a + 2) t = kCols B t) ∧ (∀ r : Nat, (r : Int) < B 1 → mi (a + 3) (2 * kOf B r 0 + kOf B r 2).toNat = r)
/-- the rows of one table -/
def cTb (mi : mm_M) (a : Nat) (B : Int → Int) (t : Nat) : Prop := (0 ≤ cRc mi a t ∧ cRc mi a t ≤ 20) ∧ (B 0 ≤ t → cRc mi a t = 0) ∧
  (∀ j : Nat, (j : Int) < cRc mi a t → (0 ≤ cKy mi a t j ∧ cKy mi a t j ≤ 99) ∧ kCe B (100 * t + cKy mi a t j) = 101 * (cVl mi a t j 0 + 1) + (cVl mi a t j 1 + 1) ∧ (-1 ≤ cVl mi a t j 0 ∧ cVl mi a t j 0 ≤ 99) ∧ (-1 ≤ cVl mi a t j 1 ∧ cVl mi a t j 1 ≤ 99)) ∧
  (∀ i j : Nat, i < j → (j : Int) < cRc mi a t → cKy mi a t i < cKy mi a t j) ∧ (∀ k : Nat, k < 100 → 0 ≤ kCe B (100 * t + k) → ∃ j : Nat, (j : Int) < cRc mi a t ∧ cKy mi a t j = k)
def cS (mi : mm_M) (a : Nat) (B : Int → Int) : Prop := bInv B ∧ cHd mi a B ∧ cFa mi a B ∧ cCo mi a B ∧ ∀ t, t < 6 → cTb mi a B t
section CS
variable {X : Nat × (Nat → Int)} {mi : mm_M} {h : mm_H} {Q : Option mm_V → mm_S → Prop} {B : Int → Int}
theorem sp35 (hS : cS mi 1 B) {t : Int} : mcl X 35 [.inr (some 1), .inl t] (mm_ms0 mi h) Q = Q (some (.inl (if 0 ≤ t ∧ t < B 0 then 1 else 0))) (mm_ms0 mi h) := by
  rw [c35, b35_0]
  by_cases q1 : t < 0
  · rw [if_pos q1, b35_16, b35_17, if_neg (by omega)]
    exact mm_andT (Or.inl rfl)
  · rw [if_neg q1, b35_4, hS.2.1.1]
    by_cases q2 : t < B 0
    · rw [if_pos q2, b35_12, b35_17, if_pos (by omega)]
      exact mm_andT (Or.inr rfl)
    · rw [if_neg q2, b35_16, b35_17, if_neg (by omega)]
      exact mm_andT (Or.inl rfl)
theorem sp36 (hS : cS mi 1 B) {r : Int} : mcl X 36 [.inr (some 1), .inl r] (mm_ms0 mi h) Q = Q (some (.inl (if 0 ≤ r ∧ r < B 1 then 1 else 0))) (mm_ms0 mi h) := by
  rw [c36, b36_0]
  by_cases q1 : r < 0
  · rw [if_pos q1, b36_16, b36_17, if_neg (by omega)]
    exact mm_andT (Or.inl rfl)
  · rw [if_neg q1, b36_4, hS.2.1.2.1]
    by_cases q2 : r < B 1
    · rw [if_pos q2, b36_12, b36_17, if_pos (by omega)]
      exact mm_andT (Or.inr rfl)
    · rw [if_neg q2, b36_16, b36_17, if_neg (by omega)]
      exact mm_andT (Or.inl rfl)
theorem cCol (hS : cS mi 1 B) {t : Int} (ht : 0 ≤ t ∧ t < 6) : mi 3 t.toNat = kCols B t := by
  have := hS.2.2.2.1.1 t.toNat (by omega)
  rw [show ((t.toNat : Nat) : Int) = t by omega] at this
  exact this
/-- there is such a column -/
abbrev cHasC (B : Int → Int) (t c : Int) : Prop := (0 ≤ t ∧ t < B 0) ∧ 0 ≤ c ∧ c < kCols B t
theorem sp37 (hS : cS mi 1 B) {t c : Int} : mcl X 37 [.inr (some 1), .inl t, .inl c] (mm_ms0 mi h) Q = Q (some (.inl (if cHasC B t c then 1 else 0))) (mm_ms0 mi h) := by
  have w0 := hS.1.1.1
  rw [c37, b37_0, sp35 hS, mm_psh_i, b37_5, mm_ite0]
  by_cases q1 : 0 ≤ t ∧ t < B 0
  · rw [if_pos q1, b37_8]
    by_cases q2 : c < 0
    · rw [if_pos q2, b37_26, b37_27, if_neg (by omega)]
      exact mm_andT (Or.inl rfl)
    · rw [if_neg q2, b37_12, mm_andT (by omega), b37_19, cCol hS (by omega)]
      by_cases q3 : c < kCols B t
      · rw [if_pos q3, b37_22, b37_27, if_pos ⟨q1, by omega, q3⟩]
        exact mm_andT (Or.inr rfl)
      · rw [if_neg q3, b37_26, b37_27, if_neg (fun z => q3 z.2.2)]
        exact mm_andT (Or.inl rfl)
  · rw [if_neg q1, b37_26, b37_27, if_neg (fun z => q1 z.1)]
    exact mm_andT (Or.inl rfl)
theorem sp41 (hS : cS mi 1 B) {r w : Int} (hr : 0 ≤ r ∧ r < B 1) (hw : 0 ≤ w ∧ w < 6) : mcl X 41 [.inr (some 1), .inl r, .inl w] (mm_ms0 mi h) Q = Q (some (.inl (kOf B r w))) (mm_ms0 mi h) := by
  have w1 := hS.1.1.2.1
  rw [c41, b41_0, mm_wi (z := r * 6) (by omega) (by omega), mm_wi (z := r * 6 + w) (by omega) (by omega), mm_andT (by omega), b41_11]
  have := hS.2.2.1.1 (r * 6 + w).toNat (by omega)
  rw [show 6 + (((r * 6 + w).toNat : Nat) : Int) = 6 + 6 * r + w by omega] at this
  rw [show mi 5 (r * 6 + w).toNat = kOf B r w from this]
theorem sp39 (hS : cS mi 1 B) {t k : Int} (hy : ∀ j : Nat, 0 ≤ t → t < B 0 → (j : Int) < cRc mi 1 t.toNat → cKy mi 1 t.toNat j = k → kIsRow B t k → Q (some (.inl (20 * t + j))) (mm_ms0 mi h)) (hn : ¬ kIsRow B t k → Q (some (.inl (-1))) (mm_ms0 mi h)) : mcl X 39 [.inr (some 1), .inl t, .inl k] (mm_ms0 mi h) Q := by
  have w0 := hS.1.1.1
  rw [c39, b39_0, sp35 hS, mm_psh_i, b39_5, mm_ite0]
  by_cases q1 : 0 ≤ t ∧ t < B 0
  · obtain ⟨hrc, hz, hrow, hso, hco⟩ := hS.2.2.2.2 t.toNat (by omega)
    have htt : ((t.toNat : Nat) : Int) = t := by omega
    rw [if_pos q1, b39_10, mm_wi (z := t * 20) (by omega) (by omega)]
    refine ⟨by omega, ?_⟩
    have e1 : mi 2 t.toNat = cRc mi 1 t.toNat := rfl
    rw [b39_22, e1, mm_wi (z := t * 20 + cRc mi 1 t.toNat) (by omega) (by omega)]
    have hl : (((cRc mi 1 t.toNat).toNat : Nat) : Int) = cRc mi 1 t.toNat := by omega
    have go : ∀ n : Nat, n ≤ (cRc mi 1 t.toNat).toNat → (∀ j, j < n → cKy mi 1 t.toNat j ≠ k) → mwp X 39 28 [some (.inr (some 1)), some (.inl t), some (.inl k), some (.inl (t * 20)), some (.inl (t * 20 + cRc mi 1 t.toNat)), some (.inl (t * 20 + n))] [] (mm_ms0 mi h) Q := by
      refine mm_for (fun n => (∀ j, j < n → cKy mi 1 t.toNat j ≠ k) → mwp X 39 28 [some (.inr (some 1)), some (.inl t), some (.inl k), some (.inl (t * 20)), some (.inl (t * 20 + cRc mi 1 t.toNat)), some (.inl (t * 20 + n))] [] (mm_ms0 mi h) Q) (cRc mi 1 t.toNat).toNat ?_ ?_
      · intro hno
        rw [b39_28, if_neg (by omega), b39_55]
        refine hn ?_
        rintro ⟨_, hk, hc⟩
        obtain ⟨j, hj, ej⟩ := hco k.toNat (by omega) (by rw [htt, show ((k.toNat : Nat) : Int) = k by omega]; exact hc)
        exact hno j (by omega) (by omega)
      · intro n hn2 ih hno
        have e2 : mi 6 (t * 20 + n).toNat = cKy mi 1 t.toNat n := by
          show mi 6 _ = mi 6 (20 * t.toNat + n)
          exact congrArg (mi 6) (by omega)
        rw [b39_28, if_pos (by omega), b39_35]
        refine ⟨by omega, ?_⟩
        rw [b39_42, e2]
        by_cases q2 : cKy mi 1 t.toNat n = k
        · rw [if_pos q2, b39_46, Int.mul_comm]
          obtain ⟨r1, r2, r3, r4⟩ := hrow n (by omega)
          refine hy n q1.1 q1.2 (by omega) q2 ⟨q1, by omega, ?_⟩
          rw [htt, q2] at r2
          omega
        · rw [if_neg q2, b39_49, mm_wi (by omega) (by omega), Int.add_assoc]
          refine ih (fun j hj => ?_)
          by_cases q3 : j = n
          · rw [q3]; exact q2
          · exact hno j (by omega)
    have := go 0 (Nat.zero_le _) (fun j hj => absurd hj (Nat.not_lt_zero _))
    rw [show t * 20 + ((0 : Nat) : Int) = t * 20 by omega] at this
    exact this
  · rw [if_neg q1, b39_8]
    exact hn (fun z => q1 z.1)
theorem sp38 (hS : cS mi 1 B) {t k : Int} (hq : Q (some (.inl (if kIsRow B t k then 1 else 0))) (mm_ms0 mi h)) : mcl X 38 [.inr (some 1), .inl t, .inl k] (mm_ms0 mi h) Q := by
  rw [c38, b38_0]
  refine sp39 hS ?_ ?_
  · intro j h1 h2 h3 h4 h5
    rw [if_pos h5] at hq
    rw [mm_psh_i, b38_6, if_neg (by omega), b38_10, b38_15]
    exact ⟨Or.inr rfl, hq⟩
  · intro h5
    rw [if_neg h5] at hq
    rw [mm_psh_i, b38_6, if_pos rfl, b38_14, b38_15]
    exact ⟨Or.inl rfl, hq⟩
end CS
