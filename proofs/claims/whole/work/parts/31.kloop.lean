-- THE REFERENCE, loops that read
/-- a loop that counts up: the last state, and each state from the one behind it -/
theorem mm_for (P : Nat → Prop) (n : Nat) (h0 : P n) (hs : ∀ i, i < n → P (i + 1) → P i) : ∀ i, i ≤ n → P i := by
  have key : ∀ d i, i + d = n → P i := by
    intro d
    induction d with
    | zero => intro i hi; rw [show i = n by omega]; exact h0
    | succ d ih => intro i hi; exact hs i (by omega) (ih (i + 1) (by omega))
  exact fun i hi => key (n - i) i (by omega)
/-- how many of the numbers below n have p -/
def cnt (n : Nat) (p : Nat → Bool) : Int := ((List.range n).countP p : Nat)
theorem cnt_zero (p : Nat → Bool) : cnt 0 p = 0 := rfl
theorem cnt_succ (n : Nat) (p : Nat → Bool) : cnt (n + 1) p = cnt n p + (if p n = true then 1 else 0) := by
  unfold cnt
  rw [List.range_succ, List.countP_append, List.countP_singleton]
  split <;> simp
theorem cnt_nn (n : Nat) (p : Nat → Bool) : 0 ≤ cnt n p := by unfold cnt; omega
theorem cnt_le (n : Nat) (p : Nat → Bool) : cnt n p ≤ n := by
  unfold cnt
  have := List.countP_le_length (p := p) (l := List.range n)
  rw [List.length_range] at this
  omega
theorem cnt_mono {n m : Nat} (p : Nat → Bool) (h : n ≤ m) : cnt n p ≤ cnt m p := by
  obtain ⟨d, rfl⟩ := Nat.exists_eq_add_of_le h
  induction d with
  | zero => exact Int.le_refl _
  | succ d ih =>
    have := ih (by omega)
    rw [show n + (d + 1) = (n + d) + 1 by omega, cnt_succ]
    split <;> omega
/-- ranges of a block's numbers -/
def kRef (B : Int → Int) (r : Int) : Prop := (0 ≤ kOf B r 0 ∧ kOf B r 0 < B 0) ∧ (0 ≤ kOf B r 1 ∧ kOf B r 1 < B 0) ∧ (0 ≤ kOf B r 2 ∧ kOf B r 2 ≤ 1) ∧ (0 ≤ kOf B r 3 ∧ kOf B r 3 ≤ 4) ∧ (0 ≤ kOf B r 4 ∧ kOf B r 4 ≤ 1) ∧ (-1 ≤ kOf B r 5 ∧ kOf B r 5 ≤ 99)
def kWr (B : Int → Int) : Prop := (0 ≤ B 0 ∧ B 0 ≤ 6) ∧ (0 ≤ B 1 ∧ B 1 ≤ 12) ∧ (∀ r, 0 ≤ r → r < B 1 → kRef B r) ∧ (∀ x, 0 ≤ x → x < 600 → -1 ≤ kCe B x ∧ kCe B x ≤ 10200)
def kCols (B : Int → Int) (t : Int) : Int := cnt (B 1).toNat (fun r => decide (kOf B r 0 = t))
def kRefN (B : Int → Int) (t c : Int) : Nat → Int
  | 0 => 0
  | n + 1 => if kOf B n 0 = t ∧ kOf B n 2 = c then n else kRefN B t c n
def kRo (B : Int → Int) (t c : Int) : Int := kRefN B t c (B 1).toNat
def kRows (B : Int → Int) (t : Int) : Int := cnt 100 (fun k => decide (0 ≤ kCe B (100 * t + k)))
def kAllN (B : Int → Int) : Nat → Int
  | 0 => 0
  | n + 1 => kAllN B n + kRows B n
def kAll (B : Int → Int) : Int := kAllN B (B 0).toNat
theorem kRefN_in (B : Int → Int) (t c : Int) (n : Nat) : 0 ≤ kRefN B t c n ∧ (kRefN B t c n < n ∨ kRefN B t c n = 0) := by
  induction n with
  | zero => exact ⟨Int.le_refl _, Or.inr rfl⟩
  | succ n ih =>
    unfold kRefN
    split
    · omega
    · omega
theorem kAllN_in (B : Int → Int) (n : Nat) : 0 ≤ kAllN B n ∧ kAllN B n ≤ 100 * n := by
  induction n with
  | zero => exact ⟨Int.le_refl _, Int.le_refl _⟩
  | succ n ih =>
    unfold kAllN
    have h1 := cnt_nn 100 (fun k => decide (0 ≤ kCe B (100 * n + k)))
    have h2 := cnt_le 100 (fun k => decide (0 ≤ kCe B (100 * n + k)))
    unfold kRows
    omega
section KL
variable {X : Nat × (Nat → Int)} {mi : mm_M} {h : mm_H} {Q : Option mm_V → mm_S → Prop} {b : Int}
theorem sp98 (hb : kb b) (hW : kWr (mB mi b)) {t : Int} (hq : Q (some (.inl (kCols (mB mi b) t))) (mm_ms0 mi h)) : mcl X 98 [.inr (some 69), .inl b, .inl t] (mm_ms0 mi h) Q := by
  have hb' := hb
  unfold kb at hb
  obtain ⟨h0, h1, h2, h3⟩ := hW
  rw [c98, b98_0]
  refine mm_for (fun n => mwp X 98 5 [some (.inr (some 69)), some (.inl b), some (.inl t), some (.inl (cnt n (fun r => decide (kOf (mB mi b) r 0 = t)))), some (.inl n)] [] (mm_ms0 mi h) Q) (mB mi b 1).toNat ?_ ?_ 0 (Nat.zero_le _)
  · rw [b98_5, mm_wi (by omega) (by omega)]
    refine ⟨by omega, ?_⟩
    rw [b98_15, mB_1 mi (by omega), if_neg (by omega), b98_44]
    exact hq
  · intro n hn ih
    have g := h2 n (by omega) (by omega)
    have e1 := cnt_nn n (fun r => decide (kOf (mB mi b) r 0 = t))
    have e2 := cnt_le n (fun r => decide (kOf (mB mi b) r 0 = t))
    rw [b98_5, mm_wi (by omega) (by omega)]
    refine ⟨by omega, ?_⟩
    rw [b98_15, mB_1 mi (by omega), if_pos (by omega), b98_18, sp95 hb' (by omega) (by omega), mm_psh_i, b98_27]
    rw [cnt_succ] at ih
    by_cases q : kOf (mB mi b) n 0 = t
    · rw [if_pos q, b98_31, b98_36, mm_wi (by omega) (by omega), mm_wi (by omega) (by omega)]
      rw [if_pos (by simp [q])] at ih
      exact ih
    · rw [if_neg q, b98_35, b98_36, mm_wi (by omega) (by omega), mm_wi (by omega) (by omega)]
      rw [if_neg (by simp [q])] at ih
      exact ih
theorem sp99 (hb : kb b) (hW : kWr (mB mi b)) {t c : Int} (hq : Q (some (.inl (kRo (mB mi b) t c))) (mm_ms0 mi h)) : mcl X 99 [.inr (some 69), .inl b, .inl t, .inl c] (mm_ms0 mi h) Q := by
  have hb' := hb
  unfold kb at hb
  obtain ⟨h0, h1, h2, h3⟩ := hW
  rw [c99, b99_0]
  refine mm_for (fun n => mwp X 99 6 [some (.inr (some 69)), some (.inl b), some (.inl t), some (.inl c), some (.inl (kRefN (mB mi b) t c n)), some (.inl n)] [] (mm_ms0 mi h) Q) (mB mi b 1).toNat ?_ ?_ 0 (Nat.zero_le _)
  · rw [b99_6, mm_wi (by omega) (by omega)]
    refine ⟨by omega, ?_⟩
    rw [b99_16, mB_1 mi (by omega), if_neg (by omega), b99_58]
    exact hq
  · intro n hn ih
    have g := h2 n (by omega) (by omega)
    rw [b99_6, mm_wi (by omega) (by omega)]
    refine ⟨by omega, ?_⟩
    rw [b99_16, mB_1 mi (by omega), if_pos (by omega), b99_19, sp95 hb' (by omega) (by omega), mm_psh_i, b99_27]
    unfold kRefN at ih
    by_cases q : kOf (mB mi b) n 0 = t
    · rw [if_pos q, b99_31, sp95 hb' (by omega) (by omega), mm_psh_i, b99_39]
      by_cases q2 : kOf (mB mi b) n 2 = c
      · rw [if_pos q2, b99_43, b99_50, mm_wi (by omega) (by omega)]
        rw [if_pos ⟨q, q2⟩] at ih
        exact ih
      · rw [if_neg q2, b99_48, b99_50, mm_wi (by omega) (by omega)]
        rw [if_neg (fun z => q2 z.2)] at ih
        exact ih
    · rw [if_neg q, b99_48, b99_50, mm_wi (by omega) (by omega)]
      rw [if_neg (fun z => q z.1)] at ih
      exact ih
theorem sp100 (hb : kb b) {t : Int} (h1 : 0 ≤ t ∧ t < 6) (hq : Q (some (.inl (kRows (mB mi b) t))) (mm_ms0 mi h)) : mcl X 100 [.inr (some 69), .inl b, .inl t] (mm_ms0 mi h) Q := by
  unfold kb at hb
  rw [c100, b100_0]
  refine mm_for (fun n => mwp X 100 5 [some (.inr (some 69)), some (.inl b), some (.inl t), some (.inl (cnt n (fun k => decide (0 ≤ kCe (mB mi b) (100 * t + k))))), some (.inl n)] [] (mm_ms0 mi h) Q) 100 ?_ ?_ 0 (Nat.zero_le _)
  · rw [b100_5, if_neg (by omega), b100_47]
    exact hq
  · intro n hn ih
    have e1 := cnt_nn n (fun k => decide (0 ≤ kCe (mB mi b) (100 * t + k)))
    have e2 := cnt_le n (fun k => decide (0 ≤ kCe (mB mi b) (100 * t + k)))
    rw [b100_5, if_pos (by omega), b100_12]
    rw [mm_wi (z := b + 198) (by omega) (by omega), mm_wi (z := 100 * t) (by omega) (by omega), mm_wi (z := b + 198 + 100 * t) (by omega) (by omega), mm_wi (z := b + 198 + 100 * t + n) (by omega) (by omega)]
    refine ⟨by omega, ?_⟩
    rw [b100_31, mB_3 mi (by omega), show 198 + 100 * t + (n : Int) = 198 + (100 * t + n) by omega, show mB mi b (198 + (100 * t + n)) = kCe (mB mi b) (100 * t + n) from rfl]
    rw [cnt_succ] at ih
    by_cases q : kCe (mB mi b) (100 * t + n) < 0
    · rw [if_pos q, b100_38, b100_39, mm_wi (by omega) (by omega), mm_wi (by omega) (by omega)]
      rw [if_neg (by simp; omega)] at ih
      exact ih
    · rw [if_neg q, b100_34, b100_39, mm_wi (by omega) (by omega), mm_wi (by omega) (by omega)]
      rw [if_pos (by simp; omega)] at ih
      exact ih
theorem sp101 (hb : kb b) (hW : kWr (mB mi b)) (hq : Q (some (.inl (kAll (mB mi b)))) (mm_ms0 mi h)) : mcl X 101 [.inr (some 69), .inl b] (mm_ms0 mi h) Q := by
  have hb' := hb
  unfold kb at hb
  obtain ⟨h0, h1, h2, h3⟩ := hW
  rw [c101, b101_0]
  refine mm_for (fun n => mwp X 101 4 [some (.inr (some 69)), some (.inl b), some (.inl (kAllN (mB mi b) n)), some (.inl n)] [] (mm_ms0 mi h) Q) (mB mi b 0).toNat ?_ ?_ 0 (Nat.zero_le _)
  · rw [b101_4, mm_wi (by omega) (by omega)]
    refine ⟨by omega, ?_⟩
    rw [b101_13, mB_1 mi (by omega), if_neg (by omega), b101_31]
    exact hq
  · intro n hn ih
    have e1 := kAllN_in (mB mi b) n
    have e2 := kAllN_in (mB mi b) (n + 1)
    rw [b101_4, mm_wi (by omega) (by omega)]
    refine ⟨by omega, ?_⟩
    rw [b101_13, mB_1 mi (by omega), if_pos (by omega), b101_16]
    refine sp100 hb' (by omega) ?_
    rw [mm_psh_i, b101_23]
    unfold kAllN at ih e2
    rw [mm_wi (by omega) (by omega), mm_wi (by omega) (by omega)]
    exact ih
/-- is the row key of the reference's child table a child of the row parent -/
abbrev kIsCh (B : Int → Int) (r k x : Int) : Prop := 0 ≤ kCe B (100 * kOf B r 0 + k) ∧ kV B (100 * kOf B r 0 + k) (kOf B r 2) = x % 100 ∧ kOf B r 1 = x / 100
theorem sp102 (hb : kb b) (hW : kWr (mB mi b)) {r k x : Int} (h1 : 0 ≤ r ∧ r < mB mi b 1) (h2 : 0 ≤ k ∧ k < 100) (hx : 0 ≤ x ∧ x < 600) (hq : Q (some (.inl (if kIsCh (mB mi b) r k x then 1 else 0))) (mm_ms0 mi h)) : mcl X 102 [.inr (some 69), .inl b, .inl r, .inl k, .inl x] (mm_ms0 mi h) Q := by
  have hb' := hb
  unfold kb at hb
  obtain ⟨h0, h10, h20, h30⟩ := hW
  have g := h20 r h1.1 h1.2
  have hc := h30 (100 * kOf (mB mi b) r 0 + k) (by have := g.1; omega) (by have := g.1; omega)
  have hx1 := Int.tmod_eq_emod_of_nonneg (b := 100) hx.1
  have hx2 := Int.tdiv_eq_ediv_of_nonneg (b := 100) hx.1
  have g1 := g.1
  rw [c102, b102_0, sp95 hb' (by omega) (by omega), mm_psh_i, b102_9]
  rw [mm_wi (z := b + 198) (by omega) (by omega), mm_wi (z := 100 * kOf (mB mi b) r 0) (by omega) (by omega), mm_wi (z := 100 * kOf (mB mi b) r 0 + k) (by omega) (by omega), mm_wi (z := b + 198 + (100 * kOf (mB mi b) r 0 + k)) (by omega) (by omega)]
  refine ⟨by omega, ?_⟩
  rw [b102_27, mB_2 mi (by omega), show mB mi b (198 + (100 * kOf (mB mi b) r 0 + k)) = kCe (mB mi b) (100 * kOf (mB mi b) r 0 + k) from rfl]
  have no : ¬ kIsCh (mB mi b) r k x → mwp X 102 71 [some (.inr (some 69)), some (.inl b), some (.inl r), some (.inl k), some (.inl x), some (.inl (100 * kOf (mB mi b) r 0 + k))] [] (mm_ms0 mi h) Q := by
    intro hn
    rw [if_neg hn] at hq
    rw [b102_71, b102_72]
    exact ⟨Or.inl rfl, hq⟩
  by_cases q1 : kCe (mB mi b) (100 * kOf (mB mi b) r 0 + k) < 0
  · rw [if_pos q1]
    exact no (fun z => by have := z.1; omega)
  · rw [if_neg q1, b102_30, sp95 hb' (by omega) (by omega), mm_psh_i, b102_41, sp96 hb' (by omega) (by omega), mm_psh_i, b102_44, hx1]
    by_cases q2 : kV (mB mi b) (100 * kOf (mB mi b) r 0 + k) (kOf (mB mi b) r 2) = x % 100
    · rw [if_pos q2, b102_52, sp95 hb' (by omega) (by omega), mm_psh_i, b102_59, hx2]
      by_cases q3 : kOf (mB mi b) r 1 = x / 100
      · rw [if_pos q3, b102_67, b102_72]
        rw [if_pos ⟨by omega, q2, q3⟩] at hq
        exact ⟨Or.inr rfl, hq⟩
      · rw [if_neg q3]
        exact no (fun z => q3 z.2.2)
    · rw [if_neg q2]
      exact no (fun z => q2 z.2.1)
end KL
