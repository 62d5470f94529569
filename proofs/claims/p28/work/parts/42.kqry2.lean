-- THE REFERENCE: what it is asked about deletions, and the rest of its calls
theorem kFr.keep {m1 m2 : mm_M} (h : kFr m1 m2) : kKeep m1 m2 := h.toB.keep
theorem kFr.blk {m1 m2 : mm_M} (h : kFr m1 m2) (i : Nat) : kBlk m2 i = kBlk m1 i := h.B _
section KZ
variable {X : Nat × (Nat → Int)} {mi : mm_M} {h : mm_H} {Q : Option mm_V → mm_S → Prop} {b : Int}
noncomputable def kTot (mi : mm_M) (w : Int) : Int := if w = 0 then kBlk mi 0 0 else if w = 1 then kBlk mi 0 1 else if w = 2 then kAll (kBlk mi 0) else if w = 3 then kNulls (kBlk mi 0)
  else if w = 4 then kBlk mi 0 2 else if w = 5 then kBlk mi 0 3 else if w = 6 then kBlk mi 0 4 else if w = 7 then mi 69 1 else if w = 8 then mi 69 4 else -3
def kGiveG (B : Int → Int) (t k i : Int) : Int := if ¬ kIsRow B t k then -2 else if i < 0 then -3 else if i < (kOut B (100 * t + k)).length then gAt (kOut B (100 * t + k)) i.toNat else -9
def kGiveWhy (B : Int → Int) (t k : Int) : Int := if ¬ kIsRow B t k then -2 else match kWhich B (100 * t + k) with
  | none => 0
  | some e => gWhy B (gMk B (100 * t + k)) e
def kGiveBl (B : Int → Int) (t k : Int) : Int := if ¬ kIsRow B t k then -2 else match kWhich B (100 * t + k) with
  | none => -9
  | some e => gCh B e
def kGiveWc (B : Int → Int) (t k : Int) : Int := if ¬ kIsRow B t k then -2 else match kWhich B (100 * t + k) with
  | none => cnt (gR B) (fun e => decide (gHitU B (gMk B (100 * t + k)) e))
  | some _ => -8
def kFree (B : Int → Int) (t k : Int) : Prop := kIsRow B t k ∧ kWhich B (100 * t + k) = none ∧ (kOut B (100 * t + k)).length = 1
noncomputable def kFreeB (B : Int → Int) (t : Int) (k : Nat) : Bool := @decide (kFree B t k) (Classical.propDecidable _)
noncomputable def kGiveDe (B : Int → Int) (t : Int) : Int := if ¬ (0 ≤ t ∧ t < B 0) then -2 else cnt 100 (kFreeB B t)
theorem kFreeB_y {B : Int → Int} {t : Int} {k : Nat} (hf : kFree B t k) : kFreeB B t k = true := by unfold kFreeB; exact @decide_eq_true _ (Classical.propDecidable _) hf
theorem kFreeB_n {B : Int → Int} {t : Int} {k : Nat} (hf : ¬ kFree B t k) : kFreeB B t k = false := by unfold kFreeB; exact @decide_eq_false _ (Classical.propDecidable _) hf
end KZ
