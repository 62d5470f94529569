-- THE REFERENCE, its reads: what they answer in words of the block B of 798 numbers
/-- the block that begins at b -/
noncomputable def mB (mi : mm_M) (b : Int) : Int → Int := fun z => @ite Int (0 ≤ z ∧ z < 798) (Classical.propDecidable _) (mi 70 (b + z).toNat) 0
def kOf (B : Int → Int) (r w : Int) : Int := B (6 + 6 * r + w)
def kCe (B : Int → Int) (x : Int) : Int := B (198 + x)
/-- a row's value in a column, as the reference reads it -/
def kV (B : Int → Int) (x c : Int) : Int := (if c = 0 then kCe B x / 101 else kCe B x % 101) - 1
theorem mm_wi {z : Int} (h1 : -2147483648 ≤ z) (h2 : z < 2147483648) : mm_w z = z := mm_w_id h1 h2
theorem mm_andT {a b : Prop} (h : a) : (a ∧ b) = b := propext ⟨fun q => q.2, fun q => ⟨h, q⟩⟩
theorem mm_01 {c : Prop} {d : Decidable c} : ((if c then (1 : Int) else 0) = 0) = ¬ c := by
  by_cases h : c <;> simp [h]
theorem mm_ite0 {α : Sort _} {c : Prop} {d : Decidable c} {e : Decidable ((if c then (1 : Int) else 0) = 0)} {x y : α} : (if (if c then (1 : Int) else 0) = 0 then x else y) = (if c then y else x) := by
  by_cases h : c <;> simp [h]
theorem mm_or01 {c : Prop} {d : Decidable c} : (((if c then (1 : Int) else 0) = 0) ∨ (if c then (1 : Int) else 0) = 1) = True := by
  by_cases h : c <;> simp [h]
section KR
variable {X : Nat × (Nat → Int)} {mi : mm_M} {h : mm_H} {Q : Option mm_V → mm_S → Prop} {b : Int}
theorem mB_1 (mi : mm_M) {x : Int} (hz : 0 ≤ x ∧ x < 798) : mi 70 (b + x).toNat = mB mi b x := by rw [mB, if_pos hz]
theorem mB_2 (mi : mm_M) {x y : Int} (hz : 0 ≤ x + y ∧ x + y < 798) : mi 70 (b + x + y).toNat = mB mi b (x + y) := by rw [mB, if_pos hz, Int.add_assoc]
theorem mB_3 (mi : mm_M) {x y z : Int} (hz : 0 ≤ x + y + z ∧ x + y + z < 798) : mi 70 (b + x + y + z).toNat = mB mi b (x + y + z) := by rw [mB, if_pos hz, ← Int.add_assoc, ← Int.add_assoc]
/-- the places of a block's numbers -/
def kb (b : Int) : Prop := b = 0 ∨ b = 4788
theorem sp91 {v lo hi : Int} : mcl X 91 [.inl v, .inl lo, .inl hi] (mm_ms0 mi h) Q = Q (some (.inl (if lo ≤ v ∧ v ≤ hi then 1 else 0))) (mm_ms0 mi h) := by
  rw [c91, b91_0]
  by_cases h1 : v < lo
  · rw [if_pos h1, if_neg (by omega), b91_14, b91_15]
    exact mm_andT (Or.inl rfl)
  · rw [if_neg h1, b91_5]
    by_cases h2 : hi < v
    · rw [if_pos h2, if_neg (by omega), b91_14, b91_15]
      exact mm_andT (Or.inl rfl)
    · rw [if_neg h2, if_pos (by omega), b91_10, b91_15]
      exact mm_andT (Or.inr rfl)
theorem sp92 (hb : kb b) {t : Int} (h1 : 0 ≤ mB mi b 0 ∧ mB mi b 0 ≤ 6) : mcl X 92 [.inr (some 69), .inl b, .inl t] (mm_ms0 mi h) Q = Q (some (.inl (if 0 ≤ t ∧ t < mB mi b 0 then 1 else 0))) (mm_ms0 mi h) := by
  unfold kb at hb
  rw [c92, b92_0]
  simp (disch := omega) only [mm_wi]
  rw [mm_andT (by omega), b92_10, mB_1 mi (by omega), sp91, mm_psh_i, b92_15, mm_wi (by omega) (by omega), mm_andT (by rw [mm_or01]; trivial)]
  congr 4
  apply propext
  omega
theorem sp93 {r : Int} (h1 : 0 ≤ mB mi 0 1 ∧ mB mi 0 1 ≤ 12) : mcl X 93 [.inr (some 69), .inl r] (mm_ms0 mi h) Q = Q (some (.inl (if 0 ≤ r ∧ r < mB mi 0 1 then 1 else 0))) (mm_ms0 mi h) := by
  rw [c93, b93_0, mm_andT (by omega), b93_8, sp91, mm_psh_i, b93_13, show mi 70 (Int.toNat 1) = mB mi 0 1 from mB_1 (b := 0) (x := 1) mi (by omega), mm_wi (by omega) (by omega), mm_andT (by rw [mm_or01]; trivial)]
  congr 4
  apply propext
  omega
theorem sp94 (hb : kb b) {t k : Int} (h1 : 0 ≤ mB mi b 0 ∧ mB mi b 0 ≤ 6) : mcl X 94 [.inr (some 69), .inl b, .inl t, .inl k] (mm_ms0 mi h) Q = Q (some (.inl (if (0 ≤ t ∧ t < mB mi b 0) ∧ (0 ≤ k ∧ k < 100) ∧ 0 ≤ kCe (mB mi b) (100 * t + k) then 1 else 0))) (mm_ms0 mi h) := by
  have hb' := hb
  unfold kb at hb
  rw [c94, b94_0, sp92 hb' h1, mm_psh_i, b94_6, mm_ite0]
  by_cases q1 : 0 ≤ t ∧ t < mB mi b 0
  · rw [if_pos q1, b94_9, sp91, mm_psh_i, b94_16, mm_ite0]
    by_cases q2 : 0 ≤ k ∧ k ≤ 99
    · rw [if_pos q2, b94_19]
      simp (disch := omega) only [mm_wi]
      rw [mm_andT (by omega), b94_36, mB_3 mi (by omega), show 198 + 100 * t + k = 198 + (100 * t + k) by omega, show mB mi b (198 + (100 * t + k)) = kCe (mB mi b) (100 * t + k) from rfl]
      by_cases q3 : kCe (mB mi b) (100 * t + k) < 0
      · rw [if_pos q3, if_neg (by omega), b94_43, b94_44]
        exact mm_andT (Or.inl rfl)
      · rw [if_neg q3, if_pos (by omega), b94_39, b94_44]
        exact mm_andT (Or.inr rfl)
    · rw [if_neg q2, if_neg (by omega), b94_43, b94_44]
      exact mm_andT (Or.inl rfl)
  · rw [if_neg q1, if_neg (by omega), b94_43, b94_44]
    exact mm_andT (Or.inl rfl)
theorem sp95 (hb : kb b) {r w : Int} (h1 : 0 ≤ r ∧ r < 12) (h2 : 0 ≤ w ∧ w < 6) : mcl X 95 [.inr (some 69), .inl b, .inl r, .inl w] (mm_ms0 mi h) Q = Q (some (.inl (kOf (mB mi b) r w))) (mm_ms0 mi h) := by
  unfold kb at hb
  rw [c95, b95_0]
  simp (disch := omega) only [mm_wi]
  rw [mm_andT (by omega), b95_16, mB_3 mi (by omega)]
  rfl
theorem sp96 (hb : kb b) {x c : Int} (h1 : 0 ≤ x ∧ x < 600) (h2 : 0 ≤ kCe (mB mi b) x ∧ kCe (mB mi b) x ≤ 10200) : mcl X 96 [.inr (some 69), .inl b, .inl x, .inl c] (mm_ms0 mi h) Q = Q (some (.inl (kV (mB mi b) x c))) (mm_ms0 mi h) := by
  unfold kb at hb
  rw [c96, b96_0]
  simp (disch := omega) only [mm_wi]
  rw [mm_andT (by omega), b96_12, mB_2 mi (by omega), show mB mi b (198 + x) = kCe (mB mi b) x from rfl]
  unfold kV
  by_cases q1 : c = 0
  · rw [if_pos q1, if_pos q1, b96_18, b96_31, Int.tdiv_eq_ediv_of_nonneg h2.1, mm_wi (by omega) (by omega)]
  · rw [if_neg q1, if_neg q1, b96_26, b96_31, Int.tmod_eq_emod_of_nonneg h2.1, mm_wi (by omega) (by omega)]
end KR
