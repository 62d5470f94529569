-- THE REFERENCE: inserts and updates, on one block
def kInsB (B : Int → Int) (x v0 v1 : Int) : Int → Int := bUp B (198 + x) (101 * (v0 + 1) + v1 + 1)
def kOutR (B : Int → Int) (t k v0 v1 : Int) : Prop := ¬ ((0 ≤ k ∧ k ≤ 99) ∧ (-1 ≤ v0 ∧ v0 ≤ if 0 < kCols B t then 99 else -1) ∧ (-1 ≤ v1 ∧ v1 ≤ if 1 < kCols B t then 99 else -1))
def kMiss (B : Int → Int) (t v0 v1 : Int) : Prop := (v0 = -1 ∧ kNeed B t 0) ∨ (v1 = -1 ∧ kNeed B t 1)
def kNoP (B : Int → Int) (t v0 v1 : Int) : Prop := (v0 ≠ -1 ∧ ¬ kHasP B t 0 v0) ∨ (v1 ≠ -1 ∧ ¬ kHasP B t 1 v1)
def kNoRow (B : Int → Int) (t k : Int) : Prop := ¬ kIsRow B t k
noncomputable def kIns (B : Int → Int) (t k v0 v1 : Int) : Int × (Int → Int) :=
  @ite _ (0 ≤ t ∧ t < B 0) (Classical.propDecidable _)
    (@ite _ (kOutR B t k v0 v1) (Classical.propDecidable _) (-3, B)
      (@ite _ (kNoRow B t k) (Classical.propDecidable _)
        (@ite _ (kRows B t = 20) (Classical.propDecidable _) (-4, B)
          (@ite _ (kMiss B t v0 v1) (Classical.propDecidable _) (-6, B)
            (@ite _ (kNoP (kInsB B (100 * t + k) v0 v1) t v0 v1) (Classical.propDecidable _) (-7, kInsB B (100 * t + k) v0 v1)
              (kRows (kInsB B (100 * t + k) v0 v1) t, bUp (kInsB B (100 * t + k) v0 v1) 2 (mm_w (B 2 + 1))))))
        (-5, B)))
    (-2, B)
noncomputable def kUpd (B : Int → Int) (t k c v : Int) : Int × (Int → Int) :=
  @ite _ (¬ (kIsRow B t k ∧ 0 ≤ c ∧ c ≤ kCols B t - 1)) (Classical.propDecidable _) (-2, B)
    (@ite _ (¬ (-1 ≤ v ∧ v ≤ 99)) (Classical.propDecidable _) (-3, B)
      (@ite _ (v = -1 ∧ kNeed B t c) (Classical.propDecidable _) (-6, B)
        (@ite _ (v ≠ -1 ∧ ¬ kHasP B t c v) (Classical.propDecidable _) (-7, B)
          (if kV B (100 * t + k) c = v then -9 else kV B (100 * t + k) c, bUp B (198 + (100 * t + k)) (kLay B (100 * t + k) c v)))))
section KP
variable {X : Nat × (Nat → Int)} {mi : mm_M} {h : mm_H} {Q : Option mm_V → mm_S → Prop} {b : Int}
theorem kCols_in {B : Int → Int} (hW : kWr B) (t : Int) : 0 ≤ kCols B t ∧ kCols B t ≤ 12 := by
  have h1 := hW.2.1
  have := cnt_le (B 1).toNat (fun r => decide (kOf B r 0 = t))
  exact ⟨cnt_nn _ _, by unfold kCols; omega⟩
theorem kRows_co {B B2 : Int → Int} {t : Int} (hh : ∀ k, 0 ≤ k → k < 100 → kCe B2 (100 * t + k) = kCe B (100 * t + k)) : kRows B2 t = kRows B t := by
  unfold kRows
  exact cnt_co fun e he => by rw [hh e (by omega) (by omega)]
abbrev fI (b t k v0 v1 c : Int) : List (Option mm_V) := [some (.inr (some 69)), some (.inl b), some (.inl t), some (.inl k), some (.inl v0), some (.inl v1), some (.inl c)]
theorem le_99 {p : Prop} {d : Decidable p} {v : Int} (hv : v ≤ if p then 99 else -1) : v ≤ 99 := by
  split at hv <;> omega
end KP
