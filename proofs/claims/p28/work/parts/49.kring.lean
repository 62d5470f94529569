-- THE REFERENCE: does a row lead back to itself
abbrev kEdge (B : Int → Int) (e : Nat) : Prop := gRow B e ∧ gVal B e ≠ -1
def kAnc (B : Int → Int) (x0 : Int) : Nat → Int → Prop
  | 0, _ => False
  | n + 1, z => ∃ e, e < gR B ∧ kEdge B e ∧ (gCh B e = x0 ∨ kAnc B x0 n (gCh B e)) ∧ gPar B e = z
/-- z is a parent of x0, or a parent of a parent, and so on -/
def kAncU (B : Int → Int) (x0 z : Int) : Prop := ∃ n, kAnc B x0 n z
def kZe (mi : mm_M) : Int := cnt 600 (fun k => decide (mi 72 k = 0))
theorem cnt_drop {p q : Nat → Bool} {k : Nat} : ∀ n, k < n → p k = true → q k = false → (∀ j, j ≠ k → q j = p j) → cnt n q + 1 = cnt n p := by
  intro n
  induction n with
  | zero => intro hk; omega
  | succ n ih =>
    intro hk hp hq ho
    rw [cnt_succ, cnt_succ]
    by_cases e : k = n
    · subst e
      rw [if_neg (by rw [hq]; decide), if_pos hp, cnt_co (p := q) (q := p) (fun j hj => ho j (by omega))]
      omega
    · rw [ho n (fun z => e z.symm)]
      have := ih (by omega) hp hq ho
      omega
section KI
variable {X : Nat × (Nat → Int)} {mi : mm_M} {h : mm_H} {Q : Option mm_V → mm_S → Prop}
theorem kZe_up {mi : mm_M} {k : Nat} (hk : k < 600) (hz : mi 72 k = 0) : kZe (mm_up mi 72 k 1) + 1 = kZe mi := by
  unfold kZe
  refine cnt_drop 600 hk (decide_eq_true hz) (decide_eq_false ?_) ?_
  · rw [mm_up_at]; decide
  · intro j hj
    rw [mm_up_at2 hj]
/-- what the marks are while it goes on -/
def kMk (B : Int → Int) (x0 : Int) (mi : mm_M) : Prop := ∀ k : Nat, k < 600 → (mi 72 k = 0 ∨ mi 72 k = 1) ∧ (mi 72 k ≠ 0 → kAncU B x0 k)
noncomputable def kRing (B : Int → Int) (t k : Int) : Int := if ¬ kIsRow B t k then -2 else @ite _ (kAncU B (100 * t + k) (100 * t + k)) (Classical.propDecidable _) 1 0
end KI
