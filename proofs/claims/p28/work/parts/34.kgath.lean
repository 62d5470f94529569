-- THE REFERENCE's gathers is the machine of part 33
/-- what the reference's scratch cells hold of a configuration -/
def kRel (mi : mm_M) (C : gC) : Prop :=
  (∀ i, i < C.1.length → ∀ q, C.1[i]? = some q → mi 73 i = q.1 ∧ mi 74 i = q.2) ∧ (∀ x, 0 ≤ x → x < 600 → mi 72 x.toNat = if C.2.1 x = true then 1 else 0) ∧
  mi 69 16 = C.2.2.length ∧ (∀ i, i < C.2.2.length → ∀ x, C.2.2[i]? = some x → mi 75 i = x)
/-- nothing else has changed -/
def kFr (mi0 mi : mm_M) : Prop := (∀ a, a ≠ 69 → a ≠ 72 → a ≠ 73 → a ≠ 74 → a ≠ 75 → mi a = mi0 a) ∧ ∀ k, k ≠ 16 → k ≠ 17 → mi 69 k = mi0 69 k
theorem kFr.rf {mi : mm_M} : kFr mi mi := ⟨fun _ _ _ _ _ _ => rfl, fun _ _ _ => rfl⟩
theorem kFr.tr {m1 m2 m3 : mm_M} (h1 : kFr m1 m2) (h2 : kFr m2 m3) : kFr m1 m3 := ⟨fun a h3 h4 h5 h6 h7 => (h2.1 a h3 h4 h5 h6 h7).trans (h1.1 a h3 h4 h5 h6 h7), fun k h3 h4 => (h2.2 k h3 h4).trans (h1.2 k h3 h4)⟩
theorem mm_up_ne {mi : mm_M} {a k b : Nat} {v : Int} (h : b ≠ a) : mm_up mi a k v b = mi b := by
  funext j
  unfold mm_up
  rw [if_neg h]
theorem mm_up_at {mi : mm_M} {a k : Nat} {v : Int} : mm_up mi a k v a k = v := by
  unfold mm_up
  rw [if_pos rfl, if_pos rfl]
theorem mm_up_at2 {mi : mm_M} {a k j : Nat} {v : Int} (h : j ≠ k) : mm_up mi a k v a j = mi a j := by
  unfold mm_up
  rw [if_pos rfl, if_neg h]
theorem mm_up_if {mi : mm_M} {a k j : Nat} {v : Int} : mm_up mi a k v a j = if j = k then v else mi a j := by
  unfold mm_up
  rw [if_pos rfl]
theorem kFr.up {m1 m2 : mm_M} {a k : Nat} {v : Int} (h : kFr m1 m2) (ha : a = 72 ∨ a = 73 ∨ a = 74 ∨ a = 75 ∨ (a = 69 ∧ (k = 16 ∨ k = 17))) : kFr m1 (mm_up m2 a k v) := by
  refine ⟨fun q h3 h4 h5 h6 h7 => ?_, fun j h3 h4 => ?_⟩
  · rw [mm_up_ne (by omega)]
    exact h.1 q h3 h4 h5 h6 h7
  · by_cases q : 69 = a
    · subst q
      rw [mm_up_at2 (by omega)]
      exact h.2 j h3 h4
    · rw [mm_up_ne q]
      exact h.2 j h3 h4
theorem kFr.B {m1 m2 : mm_M} (h : kFr m1 m2) (b : Int) : mB m2 b = mB m1 b := by
  unfold mB
  rw [h.1 70 (by decide) (by decide) (by decide) (by decide) (by decide)]
section KG
variable {X : Nat × (Nat → Int)} {mi : mm_M} {h : mm_H} {Q : Option mm_V → mm_S → Prop} {b : Int}
/-- the loop's head -/
abbrev kHead (X : Nat × (Nat → Int)) (b x0 : Int) (d : Nat) (o4 o5 o6 : Option mm_V) (mi : mm_M) (h : mm_H) (Q : Option mm_V → mm_S → Prop) : Prop := mwp X 104 35 [some (.inr (some 69)), some (.inl b), some (.inl x0), some (.inl (d : Int)), o4, o5, o6] [] (mm_ms0 mi h) Q
end KG
section KG2
variable {X : Nat × (Nat → Int)} {mi : mm_M} {h : mm_H} {Q : Option mm_V → mm_S → Prop} {b : Int}
end KG2
