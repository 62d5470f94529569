-- THE REFERENCE, small functions over a block and the marks
def mA (mi : mm_M) (a : Nat) : Int → Int := fun z => mi a z.toNat
/-- whyNot -/
def kWhy (B mk : Int → Int) (r x par : Int) : Int :=
  if kOf B r 3 = 0 then (if x = par then 0 else 1) else if mk x ≠ 0 then 0 else if kOf B r 3 = 1 then 2 else if kOf B r 3 = 3 ∨ kOf B r 5 = -1 then (if kOf B r 4 = 1 then 3 else 0)
  else if kCe B (100 * kOf B r 1 + kOf B r 5) < 0 ∨ mk (100 * kOf B r 1 + kOf B r 5) ≠ 0 then 4 else 0
/-- lay: a row's two values in one number -/
def kLay (B : Int → Int) (x c v : Int) : Int := if c = 0 then 101 * (v + 1) + (kV B x 1 + 1) else 101 * (kV B x 0 + 1) + v + 1
section KF
variable {X : Nat × (Nat → Int)} {mi : mm_M} {h : mm_H} {Q : Option mm_V → mm_S → Prop} {b : Int}
theorem kV_in {B : Int → Int} {x c : Int} (h1 : 0 ≤ kCe B x ∧ kCe B x ≤ 10200) : -1 ≤ kV B x c ∧ kV B x c ≤ 100 := by
  unfold kV
  split <;> omega
/-- does the value have its parent -/
abbrev kIsRow (B : Int → Int) (t k : Int) : Prop := (0 ≤ t ∧ t < B 0) ∧ (0 ≤ k ∧ k < 100) ∧ 0 ≤ kCe B (100 * t + k)
abbrev kHasP (B : Int → Int) (t c v : Int) : Prop := kIsRow B (kOf B (kRo B t c) 1) v
abbrev kNeed (B : Int → Int) (t c : Int) : Prop := c < kCols B t ∧ kOf B (kRo B t c) 4 = 1
theorem kRo_in (hW : kWr (mB mi b)) (t c : Int) : 0 ≤ kRo (mB mi b) t c ∧ kRo (mB mi b) t c < 12 := by
  have h1 := hW.2.1
  have := kRefN_in (mB mi b) t c (mB mi b 1).toNat
  unfold kRo
  omega
end KF
