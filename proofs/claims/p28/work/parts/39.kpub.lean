-- THE REFERENCE: blocks copied, changes accepted
def kCp (mi : mm_M) (f t : Nat) : mm_M := fun a k => if a = 70 ∧ 798 * t ≤ k ∧ k < 798 * t + 798 then mi 70 (k - 798 * t + 798 * f) else mi a k
/-- one block's copy over another: what else stays -/
noncomputable def kBlk (mi : mm_M) (i : Nat) : Int → Int := mB mi ((798 * i : Nat) : Int)
theorem kCp_ne {mi : mm_M} {f t a : Nat} (ha : a ≠ 70) : kCp mi f t a = mi a := by
  funext k
  unfold kCp
  rw [if_neg (fun z => ha z.1)]
theorem kCp_at (mi : mm_M) (f t : Nat) : kBlk (kCp mi f t) t = kBlk mi f := by
  funext z
  unfold kBlk
  by_cases hz : 0 ≤ z ∧ z < 798
  · rw [mB_in _ hz, mB_in _ hz]
    unfold kCp
    rw [if_pos ⟨rfl, by omega, by omega⟩]
    congr 1
    omega
  · rw [mB_out _ hz, mB_out _ hz]
theorem kCp_off {mi : mm_M} {f t i : Nat} (h : i ≠ t) : kBlk (kCp mi f t) i = kBlk mi i := by
  unfold kBlk
  refine mB_off (fun k h1 h2 => ?_) (by omega)
  unfold kCp
  rw [if_neg (by omega)]
section KQ
variable {X : Nat × (Nat → Int)} {mi : mm_M} {h : mm_H} {Q : Option mm_V → mm_S → Prop} {b : Int}
/-- the history's blocks after a change -/
def kAccN (s : Int) : Int := if s < 4 then s + 1 else s
def kAcc (mi mi2 : mm_M) : Prop := (∀ a, a ≠ 69 → a ≠ 70 → mi2 a = mi a) ∧ (∀ k, k ≠ 1 → mi2 69 k = mi 69 k) ∧ mi2 69 1 = kAccN (mi 69 1) ∧ kBlk mi2 0 = kBlk mi 6 ∧ kBlk mi2 5 = kBlk mi 5 ∧
  kBlk mi2 (kAccN (mi 69 1)).toNat = kBlk mi 0 ∧ (mi 69 1 = 4 → ∀ i, 1 ≤ i → i < 4 → kBlk mi2 i = kBlk mi (i + 1)) ∧ (mi 69 1 < 4 → ∀ i : Nat, 1 ≤ i → (i : Int) ≤ mi 69 1 → kBlk mi2 i = kBlk mi i)
end KQ
