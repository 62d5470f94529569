-- THE REFERENCE, its reads: what they answer in words of the block B of 798 numbers
/-- the block that begins at b -/
noncomputable def mB (mi : mm_M) (b : Int) : Int → Int := fun z => @ite Int (0 ≤ z ∧ z < 798) (Classical.propDecidable _) (mi 70 (b + z).toNat) 0
def kOf (B : Int → Int) (r w : Int) : Int := B (6 + 6 * r + w)
def kCe (B : Int → Int) (x : Int) : Int := B (198 + x)
/-- a row's value in a column, as the reference reads it -/
def kV (B : Int → Int) (x c : Int) : Int := (if c = 0 then kCe B x / 101 else kCe B x % 101) - 1
theorem mm_wi {z : Int} (h1 : -2147483648 ≤ z) (h2 : z < 2147483648) : mm_w z = z := mm_w_id h1 h2
theorem mm_andT {a b : Prop} (h : a) : (a ∧ b) = b := propext ⟨fun q => q.2, fun q => ⟨h, q⟩⟩
theorem mm_01 {c : Prop} {d : Decidable c} : ((if c then (1 : Int) else 0) = 0) = ¬ c := by
  by_cases h : c <;> simp [h]
theorem mm_ite0 {α : Sort _} {c : Prop} {d : Decidable c} {e : Decidable ((if c then (1 : Int) else 0) = 0)} {x y : α} : (if (if c then (1 : Int) else 0) = 0 then x else y) = (if c then y else x) := by
  by_cases h : c <;> simp [h]
theorem mm_or01 {c : Prop} {d : Decidable c} : (((if c then (1 : Int) else 0) = 0) ∨ (if c then (1 : Int) else 0) = 1) = True := by
  by_cases h : c <;> simp [h]
section KR
variable {X : Nat × (Nat → Int)} {mi : mm_M} {h : mm_H} {Q : Option mm_V → mm_S → Prop} {b : Int}
theorem mB_1 (mi : mm_M) {x : Int} (hz : 0 ≤ x ∧ x < 798) : mi 70 (b + x).toNat = mB mi b x := by rw [mB, if_pos hz]
theorem mB_2 (mi : mm_M) {x y : Int} (hz : 0 ≤ x + y ∧ x + y < 798) : mi 70 (b + x + y).toNat = mB mi b (x + y) := by rw [mB, if_pos hz, Int.add_assoc]
theorem mB_3 (mi : mm_M) {x y z : Int} (hz : 0 ≤ x + y + z ∧ x + y + z < 798) : mi 70 (b + x + y + z).toNat = mB mi b (x + y + z) := by rw [mB, if_pos hz, ← Int.add_assoc, ← Int.add_assoc]
/-- the places of a block's numbers -/
def kb (b : Int) : Prop := b = 0 ∨ b = 4788
end KR
