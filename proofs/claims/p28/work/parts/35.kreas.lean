-- THE REFERENCE: reasons and changes
def fnx (p : Nat → Bool) (n e : Nat) : Option Nat := (List.range' e (n - e)).find? p
theorem fnx_self {p : Nat → Bool} {n e : Nat} (he : e < n) (hc : p e = true) : fnx p n e = some e := by
  unfold fnx
  rw [show n - e = (n - (e + 1)) + 1 by omega, List.range'_succ, List.find?_cons, hc]
theorem fnx_next {p : Nat → Bool} {n e : Nat} (he : e < n) (hc : p e = false) : fnx p n e = fnx p n (e + 1) := by
  unfold fnx
  rw [show n - e = (n - (e + 1)) + 1 by omega, List.range'_succ, List.find?_cons, hc]
theorem fnx_end {p : Nat → Bool} {n e : Nat} (he : n ≤ e) : fnx p n e = none := by
  unfold fnx
  rw [show n - e = 0 by omega]
  rfl
/-- the parent of the row at a place -/
def gPar (B : Int → Int) (e : Nat) : Int := 100 * kOf B ((e / 100 : Nat) : Int) 1 + kV B (gCh B e) (kOf B ((e / 100 : Nat) : Int) 2)
abbrev gRow (B : Int → Int) (e : Nat) : Prop := 0 ≤ kCe B (gCh B e)
abbrev gVal (B : Int → Int) (e : Nat) : Int := kV B (gCh B e) (kOf B ((e / 100 : Nat) : Int) 2)
abbrev gHit (B mk : Int → Int) (e : Nat) : Prop := gRow B e ∧ gVal B e ≠ -1 ∧ mk (gPar B e) ≠ 0
def gWhy (B mk : Int → Int) (e : Nat) : Int := kWhy B mk ((e / 100 : Nat) : Int) (gCh B e) (gPar B e)
def gBad (B mk : Int → Int) (e : Nat) : Bool := decide (gHit B mk e ∧ 0 < gWhy B mk e)
/-- a hit of a row that stays -/
abbrev gHitU (B mk : Int → Int) (e : Nat) : Prop := gHit B mk e ∧ mk (gCh B e) = 0
theorem kV_in2 {B : Int → Int} {x c : Int} (h1 : 0 ≤ kCe B x ∧ kCe B x ≤ 10200) : -1 ≤ kV B x c ∧ kV B x c ≤ 99 := by
  unfold kV
  split <;> omega
/-- what is known of the numbers at a place -/
theorem g_at {B : Int → Int} (hW : kWr B) {e : Nat} (he : e < gR B) : (0 ≤ gCh B e ∧ gCh B e < 600) ∧ ((e / 100 : Nat) : Int) < B 1 ∧ kRef B ((e / 100 : Nat) : Int) ∧ (-1 ≤ kCe B (gCh B e) ∧ kCe B (gCh B e) ≤ 10200) ∧ (e : Int) < 100 * B 1 ∧ (gRow B e → (-1 ≤ gVal B e ∧ gVal B e ≤ 99) ∧ (gVal B e ≠ -1 → 0 ≤ gPar B e ∧ gPar B e < 600)) ∧ Int.tdiv (e : Int) 100 = ((e / 100 : Nat) : Int) ∧ Int.tmod (e : Int) 100 = ((e % 100 : Nat) : Int) := by
  have h1 := hW.2.1
  have hch := gCh_in hW he
  have hg : (gR B : Int) = 100 * B 1 := by unfold gR; omega
  have hr : ((e / 100 : Nat) : Int) < B 1 := by omega
  have hk := hW.2.2.1 ((e / 100 : Nat) : Int) (by omega) hr
  have hc := hW.2.2.2 (gCh B e) hch.1 hch.2
  have h6 := hW.1
  have hp := hk.2.1
  refine ⟨hch, hr, hk, hc, by omega, fun hrow => ?_, by rw [Int.tdiv_eq_ediv_of_nonneg (by omega)]; omega, by rw [Int.tmod_eq_emod_of_nonneg (by omega)]; omega⟩
  have hv := kV_in2 (c := kOf B ((e / 100 : Nat) : Int) 2) ⟨hrow, hc.2⟩
  refine ⟨hv, fun hne => ?_⟩
  have hv2 : gVal B e ≠ -1 := hne
  unfold gPar
  have e1 : gVal B e = kV B (gCh B e) (kOf B ((e / 100 : Nat) : Int) 2) := rfl
  omega
section KRS
variable {X : Nat × (Nat → Int)} {mi : mm_M} {h : mm_H} {Q : Option mm_V → mm_S → Prop} {b : Int}
end KRS
