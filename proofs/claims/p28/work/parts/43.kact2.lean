-- THE REFERENCE: references added, text typed, undo, keep, restore
def kAddRB (B : Int → Int) (c p rule q d : Int) : Int → Int := bUp (bUp (bUp (bUp (bUp (bUp (bUp B (6 + 6 * B 1 + 0) c) (6 + 6 * B 1 + 1) p) (6 + 6 * B 1 + 2) (kCols B c)) (6 + 6 * B 1 + 3) rule) (6 + 6 * B 1 + 4) (if q = 0 then 0 else 1)) (6 + 6 * B 1 + 5) d) 1 (B 1 + 1)
def kBadR (B : Int → Int) (c p : Int) : Prop := ¬ ((0 ≤ c ∧ c < B 0) ∧ (0 ≤ p ∧ p < B 0))
def kBadN (rule d : Int) : Prop := ¬ ((0 ≤ rule ∧ rule ≤ 4) ∧ (-1 ≤ d ∧ d ≤ 99))
noncomputable def kAddR (B : Int → Int) (c p rule q d : Int) : Int × (Int → Int) :=
  @ite _ (kBadR B c p) (Classical.propDecidable _) (-2, B) (@ite _ (kBadN rule d) (Classical.propDecidable _) (-3, B)
    (if B 1 = 12 ∨ kCols B c = 2 then (-4, B) else if 0 < kRows B c then (-8, B) else (B 1, kAddRB B c p rule q d)))
section KS
variable {X : Nat × (Nat → Int)} {mi : mm_M} {h : mm_H} {Q : Option mm_V → mm_S → Prop} {b : Int}
theorem kUp6 {m1 : mm_M} {B : Int → Int} {w v : Int} (hK : kKeep mi m1) (hB : mB m1 4788 = B) (hw : 0 ≤ w ∧ w < 798) : kKeep mi (mm_up m1 70 (4788 + w).toNat v) ∧ mB (mm_up m1 70 (4788 + w).toNat v) 4788 = bUp B w v :=
  ⟨hK.tr (kFrB.up (by omega) hw).keep, by rw [mB_up (by omega) hw, hB]⟩
theorem kKeep.cp5 {mi : mm_M} : kKeep mi (kCp mi 5 6) := ⟨⟨fun a _ q _ _ _ _ => kCp_ne q, fun k _ _ _ _ => by rw [kCp_ne (by decide)]⟩, by rw [kCp_ne (by decide)], fun i hi => kCp_off (by omega)⟩
end KS
