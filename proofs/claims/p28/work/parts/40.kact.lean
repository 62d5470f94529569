-- THE REFERENCE: the calls that change it
def mOk (B : Int → Int) : Prop := kWr B ∧ (∀ t, kCols B t ≤ 2) ∧ (gEx B).length ≤ 120
def kFrP (mi mi2 : mm_M) : Prop := (∀ a, a ≠ 69 → a ≠ 70 → a ≠ 72 → a ≠ 73 → a ≠ 74 → a ≠ 75 → mi2 a = mi a) ∧ ∀ k, k ≠ 1 → ¬ (5 ≤ k ∧ k ≤ 11) → k ≠ 16 → k ≠ 17 → mi2 69 k = mi 69 k
def kKeep (mi mi2 : mm_M) : Prop := kFrP mi mi2 ∧ mi2 69 1 = mi 69 1 ∧ ∀ i, i < 6 → kBlk mi2 i = kBlk mi i
def kTake (mi mi2 : mm_M) (B2 : Int → Int) : Prop := kFrP mi mi2 ∧ mi2 69 1 = kAccN (mi 69 1) ∧ kBlk mi2 0 = B2 ∧ kBlk mi2 5 = kBlk mi 5 ∧ kBlk mi2 (kAccN (mi 69 1)).toNat = kBlk mi 0 ∧
  (mi 69 1 = 4 → ∀ i, 1 ≤ i → i < 4 → kBlk mi2 i = kBlk mi (i + 1)) ∧ (mi 69 1 < 4 → ∀ i : Nat, 1 ≤ i → (i : Int) ≤ mi 69 1 → kBlk mi2 i = kBlk mi i)
theorem kKeep.rf {mi : mm_M} : kKeep mi mi := ⟨⟨fun _ _ _ _ _ _ _ => rfl, fun _ _ _ _ _ => rfl⟩, rfl, fun _ _ => rfl⟩
theorem kFrP.tr {m1 m2 m3 : mm_M} (h1 : kFrP m1 m2) (h2 : kFrP m2 m3) : kFrP m1 m3 := ⟨fun a q1 q2 q3 q4 q5 q6 => (h2.1 a q1 q2 q3 q4 q5 q6).trans (h1.1 a q1 q2 q3 q4 q5 q6), fun k q1 q2 q3 q4 => (h2.2 k q1 q2 q3 q4).trans (h1.2 k q1 q2 q3 q4)⟩
theorem kKeep.tr {m1 m2 m3 : mm_M} (h1 : kKeep m1 m2) (h2 : kKeep m2 m3) : kKeep m1 m3 := ⟨h1.1.tr h2.1, h2.2.1.trans h1.2.1, fun i hi => (h2.2.2 i hi).trans (h1.2.2 i hi)⟩
theorem kBlk_0 (mi : mm_M) : kBlk mi 0 = mB mi 0 := rfl
theorem kBlk_6 (mi : mm_M) : kBlk mi 6 = mB mi 4788 := rfl
theorem kFrB.keep {m1 m2 : mm_M} (h : kFrB 4788 m1 m2) : kKeep m1 m2 := ⟨⟨h.1, fun k _ _ q1 q2 => h.2.1 k q1 q2⟩, h.2.1 1 (by decide) (by decide), fun i hi => h.other (by omega) (by omega)⟩
theorem kKeep.cp {mi : mm_M} : kKeep mi (kCp mi 0 6) := ⟨⟨fun a _ q _ _ _ _ => kCp_ne q, fun k _ _ _ _ => by rw [kCp_ne (by decide)]⟩, by rw [kCp_ne (by decide)], fun i hi => kCp_off (by omega)⟩
def kb0 : kb 0 := Or.inl rfl
def kb6 : kb 4788 := Or.inr rfl
section KA
variable {X : Nat × (Nat → Int)} {mi : mm_M} {h : mm_H} {Q : Option mm_V → mm_S → Prop} {b : Int}
/-- a change tried on the block of work, then taken or dropped -/
abbrev kAct (mi : mm_M) (h : mm_H) (Q : Option mm_V → mm_S → Prop) (r : Int × (Int → Int)) : Prop := (r.1 < -1 → ∀ mi2, kKeep mi mi2 → Q (some (.inl r.1)) (mm_ms0 mi2 h)) ∧ (-1 ≤ r.1 → ∀ mi2, kTake mi mi2 r.2 → Q (some (.inl r.1)) (mm_ms0 mi2 h))
def kAddT (B : Int → Int) : Int × (Int → Int) := if B 0 = 6 then (-4, B) else (B 0, bUp B 0 (B 0 + 1))
def kSetR (B : Int → Int) (r v : Int) : Int × (Int → Int) := if ¬ (0 ≤ r ∧ r < B 1) then (-2, B) else if ¬ (0 ≤ v ∧ v ≤ 4) then (-3, B) else if kOf B r 3 = v then (-9, B) else (kOf B r 3, bUp B (6 + 6 * r + 3) v)
theorem mB_0 {mi : mm_M} {z : Int} (hz : 0 ≤ z ∧ z < 798) : mi 70 z.toNat = kBlk mi 0 z := by rw [kBlk_0, mB_in _ hz, Int.zero_add]
end KA
