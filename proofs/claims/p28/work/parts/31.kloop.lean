-- THE REFERENCE, loops that read
/-- a loop that counts up: the last state, and each state from the one behind it -/
theorem mm_for (P : Nat → Prop) (n : Nat) (h0 : P n) (hs : ∀ i, i < n → P (i + 1) → P i) : ∀ i, i ≤ n → P i := by
  have key : ∀ d i, i + d = n → P i := by
    intro d
    induction d with
    | zero => intro i hi; rw [show i = n by omega]; exact h0
    | succ d ih => intro i hi; exact hs i (by omega) (ih (i + 1) (by omega))
  exact fun i hi => key (n - i) i (by omega)
/-- how many of the numbers below n have p -/
def cnt (n : Nat) (p : Nat → Bool) : Int := ((List.range n).countP p : Nat)
theorem cnt_zero (p : Nat → Bool) : cnt 0 p = 0 := rfl
theorem cnt_succ (n : Nat) (p : Nat → Bool) : cnt (n + 1) p = cnt n p + (if p n = true then 1 else 0) := by
  unfold cnt
  rw [List.range_succ, List.countP_append, List.countP_singleton]
  split <;> simp
theorem cnt_nn (n : Nat) (p : Nat → Bool) : 0 ≤ cnt n p := by unfold cnt; omega
theorem cnt_le (n : Nat) (p : Nat → Bool) : cnt n p ≤ n := by
  unfold cnt
  have := List.countP_le_length (p := p) (l := List.range n)
  rw [List.length_range] at this
  omega
theorem cnt_mono {n m : Nat} (p : Nat → Bool) (h : n ≤ m) : cnt n p ≤ cnt m p := by
  obtain ⟨d, rfl⟩ := Nat.exists_eq_add_of_le h
  induction d with
  | zero => exact Int.le_refl _
  | succ d ih =>
    have := ih (by omega)
    rw [show n + (d + 1) = (n + d) + 1 by omega, cnt_succ]
    split <;> omega
/-- ranges of a block's numbers -/
def kRef (B : Int → Int) (r : Int) : Prop := (0 ≤ kOf B r 0 ∧ kOf B r 0 < B 0) ∧ (0 ≤ kOf B r 1 ∧ kOf B r 1 < B 0) ∧ (0 ≤ kOf B r 2 ∧ kOf B r 2 ≤ 1) ∧ (0 ≤ kOf B r 3 ∧ kOf B r 3 ≤ 4) ∧ (0 ≤ kOf B r 4 ∧ kOf B r 4 ≤ 1) ∧ (-1 ≤ kOf B r 5 ∧ kOf B r 5 ≤ 99)
def kWr (B : Int → Int) : Prop := (0 ≤ B 0 ∧ B 0 ≤ 6) ∧ (0 ≤ B 1 ∧ B 1 ≤ 12) ∧ (∀ r, 0 ≤ r → r < B 1 → kRef B r) ∧ (∀ x, 0 ≤ x → x < 600 → -1 ≤ kCe B x ∧ kCe B x ≤ 10200)
def kCols (B : Int → Int) (t : Int) : Int := cnt (B 1).toNat (fun r => decide (kOf B r 0 = t))
def kRefN (B : Int → Int) (t c : Int) : Nat → Int
  | 0 => 0
  | n + 1 => if kOf B n 0 = t ∧ kOf B n 2 = c then n else kRefN B t c n
def kRo (B : Int → Int) (t c : Int) : Int := kRefN B t c (B 1).toNat
def kRows (B : Int → Int) (t : Int) : Int := cnt 100 (fun k => decide (0 ≤ kCe B (100 * t + k)))
def kAllN (B : Int → Int) : Nat → Int
  | 0 => 0
  | n + 1 => kAllN B n + kRows B n
def kAll (B : Int → Int) : Int := kAllN B (B 0).toNat
theorem kRefN_in (B : Int → Int) (t c : Int) (n : Nat) : 0 ≤ kRefN B t c n ∧ (kRefN B t c n < n ∨ kRefN B t c n = 0) := by
  induction n with
  | zero => exact ⟨Int.le_refl _, Or.inr rfl⟩
  | succ n ih =>
    unfold kRefN
    split
    · omega
    · omega
theorem kAllN_in (B : Int → Int) (n : Nat) : 0 ≤ kAllN B n ∧ kAllN B n ≤ 100 * n := by
  induction n with
  | zero => exact ⟨Int.le_refl _, Int.le_refl _⟩
  | succ n ih =>
    unfold kAllN
    have h1 := cnt_nn 100 (fun k => decide (0 ≤ kCe B (100 * n + k)))
    have h2 := cnt_le 100 (fun k => decide (0 ≤ kCe B (100 * n + k)))
    unfold kRows
    omega
section KL
variable {X : Nat × (Nat → Int)} {mi : mm_M} {h : mm_H} {Q : Option mm_V → mm_S → Prop} {b : Int}
/-- is the row key of the reference's child table a child of the row parent -/
abbrev kIsCh (B : Int → Int) (r k x : Int) : Prop := 0 ≤ kCe B (100 * kOf B r 0 + k) ∧ kV B (100 * kOf B r 0 + k) (kOf B r 2) = x % 100 ∧ kOf B r 1 = x / 100
end KL
