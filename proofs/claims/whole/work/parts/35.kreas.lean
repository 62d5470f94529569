-- THE REFERENCE: reasons and changes
def fnx (p : Nat → Bool) (n e : Nat) : Option Nat := (List.range' e (n - e)).find? p
theorem fnx_self {p : Nat → Bool} {n e : Nat} (he : e < n) (hc : p e = true) : fnx p n e = some e := by
  unfold fnx
  rw [show n - e = (n - (e + 1)) + 1 by omega, List.range'_succ, List.find?_cons, hc]
theorem fnx_next {p : Nat → Bool} {n e : Nat} (he : e < n) (hc : p e = false) : fnx p n e = fnx p n (e + 1) := by
  unfold fnx
  rw [show n - e = (n - (e + 1)) + 1 by omega, List.range'_succ, List.find?_cons, hc]
theorem fnx_end {p : Nat → Bool} {n e : Nat} (he : n ≤ e) : fnx p n e = none := by
  unfold fnx
  rw [show n - e = 0 by omega]
  rfl
/-- the parent of the row at a place -/
def gPar (B : Int → Int) (e : Nat) : Int := 100 * kOf B ((e / 100 : Nat) : Int) 1 + kV B (gCh B e) (kOf B ((e / 100 : Nat) : Int) 2)
abbrev gRow (B : Int → Int) (e : Nat) : Prop := 0 ≤ kCe B (gCh B e)
abbrev gVal (B : Int → Int) (e : Nat) : Int := kV B (gCh B e) (kOf B ((e / 100 : Nat) : Int) 2)
abbrev gHit (B mk : Int → Int) (e : Nat) : Prop := gRow B e ∧ gVal B e ≠ -1 ∧ mk (gPar B e) ≠ 0
def gWhy (B mk : Int → Int) (e : Nat) : Int := kWhy B mk ((e / 100 : Nat) : Int) (gCh B e) (gPar B e)
def gBad (B mk : Int → Int) (e : Nat) : Bool := decide (gHit B mk e ∧ 0 < gWhy B mk e)
/-- a hit of a row that stays -/
abbrev gHitU (B mk : Int → Int) (e : Nat) : Prop := gHit B mk e ∧ mk (gCh B e) = 0
theorem kV_in2 {B : Int → Int} {x c : Int} (h1 : 0 ≤ kCe B x ∧ kCe B x ≤ 10200) : -1 ≤ kV B x c ∧ kV B x c ≤ 99 := by
  unfold kV
  split <;> omega
/-- what is known of the numbers at a place -/
theorem g_at {B : Int → Int} (hW : kWr B) {e : Nat} (he : e < gR B) : (0 ≤ gCh B e ∧ gCh B e < 600) ∧ ((e / 100 : Nat) : Int) < B 1 ∧ kRef B ((e / 100 : Nat) : Int) ∧ (-1 ≤ kCe B (gCh B e) ∧ kCe B (gCh B e) ≤ 10200) ∧ (e : Int) < 100 * B 1 ∧ (gRow B e → (-1 ≤ gVal B e ∧ gVal B e ≤ 99) ∧ (gVal B e ≠ -1 → 0 ≤ gPar B e ∧ gPar B e < 600)) ∧ Int.tdiv (e : Int) 100 = ((e / 100 : Nat) : Int) ∧ Int.tmod (e : Int) 100 = ((e % 100 : Nat) : Int) := by
  have h1 := hW.2.1
  have hch := gCh_in hW he
  have hg : (gR B : Int) = 100 * B 1 := by unfold gR; omega
  have hr : ((e / 100 : Nat) : Int) < B 1 := by omega
  have hk := hW.2.2.1 ((e / 100 : Nat) : Int) (by omega) hr
  have hc := hW.2.2.2 (gCh B e) hch.1 hch.2
  have h6 := hW.1
  have hp := hk.2.1
  refine ⟨hch, hr, hk, hc, by omega, fun hrow => ?_, by rw [Int.tdiv_eq_ediv_of_nonneg (by omega)]; omega, by rw [Int.tmod_eq_emod_of_nonneg (by omega)]; omega⟩
  have hv := kV_in2 (c := kOf B ((e / 100 : Nat) : Int) 2) ⟨hrow, hc.2⟩
  refine ⟨hv, fun hne => ?_⟩
  have hv2 : gVal B e ≠ -1 := hne
  unfold gPar
  have e1 : gVal B e = kV B (gCh B e) (kOf B ((e / 100 : Nat) : Int) 2) := rfl
  omega
section KRS
variable {X : Nat × (Nat → Int)} {mi : mm_M} {h : mm_H} {Q : Option mm_V → mm_S → Prop} {b : Int}
theorem sp107 (hb : kb b) (hW : kWr (mB mi b)) (h0 : fnx (gBad (mB mi b) (mA mi 72)) (gR (mB mi b)) 0 = none → Q (some (.inl 0)) (mm_ms0 mi h)) (hs : ∀ e, e < gR (mB mi b) → gBad (mB mi b) (mA mi 72) e = true → fnx (gBad (mB mi b) (mA mi 72)) (gR (mB mi b)) 0 = some e → Q (some (.inl (gWhy (mB mi b) (mA mi 72) e))) (mm_ms0 (mm_up mi 69 17 (gCh (mB mi b) e)) h)) : mcl X 107 [.inr (some 69), .inl b] (mm_ms0 mi h) Q := by
  have hb' := hb
  unfold kb at hb
  have h1 := hW.2.1
  have h6 := hW.1
  have hg : (gR (mB mi b) : Int) = 100 * mB mi b 1 := by unfold gR; omega
  rw [c107, b107_0]
  refine mm_for (fun n => ∀ o3 o4 o5 o6 o7 : Option mm_V, fnx (gBad (mB mi b) (mA mi 72)) (gR (mB mi b)) n = fnx (gBad (mB mi b) (mA mi 72)) (gR (mB mi b)) 0 → mwp X 107 2 [some (.inr (some 69)), some (.inl b), some (.inl n), o3, o4, o5, o6, o7] [] (mm_ms0 mi h) Q) (gR (mB mi b)) ?_ ?_ 0 (Nat.zero_le _) none none none none none rfl
  · intro o3 o4 o5 o6 o7 hf
    rw [b107_2, mm_wi (by omega) (by omega)]
    refine ⟨by omega, ?_⟩
    rw [b107_13, mB_1 mi (by omega), mm_wi (by omega) (by omega), if_neg (by omega), b107_138]
    exact h0 (by rw [← hf]; exact fnx_end (Nat.le_refl _))
  · intro n hn ih o3 o4 o5 o6 o7 hf
    obtain ⟨hch, hr, hk, hc, hne, hv, t1, t2⟩ := g_at hW hn
    have k0 := hk.1
    have k1 := hk.2.1
    rw [b107_2, mm_wi (by omega) (by omega)]
    refine ⟨by omega, ?_⟩
    rw [b107_13, mB_1 mi (by omega), mm_wi (by omega) (by omega), if_pos (by omega), b107_17, t1, sp95 hb' (by omega) (by omega), mm_psh_i, b107_31, t2]
    rw [mm_wi (z := b + 198) (by omega) (by omega), mm_wi (z := 100 * kOf (mB mi b) ((n / 100 : Nat) : Int) 0) (by omega) (by omega), mm_wi (z := 100 * kOf (mB mi b) ((n / 100 : Nat) : Int) 0 + ((n % 100 : Nat) : Int)) (by omega) (by omega)]
    rw [show 100 * kOf (mB mi b) ((n / 100 : Nat) : Int) 0 + ((n % 100 : Nat) : Int) = gCh (mB mi b) n from rfl, mm_wi (z := b + 198 + gCh (mB mi b) n) (by omega) (by omega)]
    refine ⟨by omega, ?_⟩
    rw [b107_52, mB_2 mi (by omega), show mB mi b (198 + gCh (mB mi b) n) = kCe (mB mi b) (gCh (mB mi b) n) from rfl]
    -- nothing here: on to the next
    have go : gBad (mB mi b) (mA mi 72) n = false → ∀ o3 o4 o5 o6 o7 : Option mm_V, ∀ l3 l4 l5 l6 : Int, o3 = some (.inl l3) → o4 = some (.inl l4) → o5 = some (.inl l5) → o6 = some (.inl l6) → mwp X 107 132 [some (.inr (some 69)), some (.inl b), some (.inl n), o3, o4, o5, o6, o7] [] (mm_ms0 mi h) Q := by
      intro hbad o3 o4 o5 o6 o7 l3 l4 l5 l6 e3 e4 e5 e6
      subst e3; subst e4; subst e5; subst e6
      rw [b107_132, mm_wi (by omega) (by omega)]
      exact ih _ _ _ _ _ (by rw [← fnx_next hn hbad]; exact hf)
    have nohit : ¬ gHit (mB mi b) (mA mi 72) n → gBad (mB mi b) (mA mi 72) n = false := fun z => by
      unfold gBad
      exact decide_eq_false (fun w => z w.1)
    by_cases q1 : kCe (mB mi b) (gCh (mB mi b) n) < 0
    · rw [if_pos q1, b107_55, b107_73, sp95 hb' (by omega) (by omega), mm_psh_i, b107_84, if_pos rfl]
      exact go (nohit (fun z => by have : 0 ≤ kCe (mB mi b) (gCh (mB mi b) n) := z.1; omega)) _ _ _ _ _ _ _ _ _ rfl rfl rfl rfl
    · have hrow : gRow (mB mi b) n := by show 0 ≤ kCe (mB mi b) (gCh (mB mi b) n); omega
      obtain ⟨v1, v2⟩ := hv hrow
      rw [if_neg q1, b107_59, sp95 hb' (by omega) (by omega), mm_psh_i, b107_70, sp96 hb' hch ⟨hrow, hc.2⟩, mm_psh_i, b107_73, sp95 hb' (by omega) (by omega), mm_psh_i, b107_84]
      rw [show kV (mB mi b) (gCh (mB mi b) n) (kOf (mB mi b) ((n / 100 : Nat) : Int) 2) = gVal (mB mi b) n from rfl]
      by_cases q2 : gVal (mB mi b) n = -1
      · rw [if_pos q2]
        exact go (nohit (fun z => z.2.1 q2)) _ _ _ _ _ _ _ _ _ rfl rfl rfl rfl
      · have hp := v2 q2
        rw [if_neg q2, mm_wi (z := 100 * kOf (mB mi b) ((n / 100 : Nat) : Int) 1) (by omega) (by omega), show 100 * kOf (mB mi b) ((n / 100 : Nat) : Int) 1 + gVal (mB mi b) n = gPar (mB mi b) n from rfl, mm_wi (z := gPar (mB mi b) n) (by omega) (by omega), b107_96]
        refine ⟨by omega, ?_⟩
        rw [b107_103, show mi 72 (gPar (mB mi b) n).toNat = mA mi 72 (gPar (mB mi b) n) from rfl]
        by_cases q3 : mA mi 72 (gPar (mB mi b) n) = 0
        · rw [if_pos q3]
          exact go (nohit (fun z => z.2.2 q3)) _ _ _ _ _ _ _ _ _ rfl rfl rfl rfl
        · rw [if_neg q3, b107_106]
          refine sp106 hb' hW ⟨by omega, hr⟩ hch ?_
          rw [mm_psh_i, b107_116, show kWhy (mB mi b) (mA mi 72) ((n / 100 : Nat) : Int) (gCh (mB mi b) n) (gPar (mB mi b) n) = gWhy (mB mi b) (mA mi 72) n from rfl]
          by_cases q4 : 0 < gWhy (mB mi b) (mA mi 72) n
          · have hbad : gBad (mB mi b) (mA mi 72) n = true := decide_eq_true ⟨⟨hrow, q2, q3⟩, q4⟩
            rw [if_pos q4, b107_123]
            exact hs n hn hbad (by rw [← hf]; exact fnx_self hn hbad)
          · rw [if_neg q4]
            exact go (decide_eq_false (fun z => q4 z.2)) _ _ _ _ _ _ _ _ _ rfl rfl rfl rfl
end KRS
