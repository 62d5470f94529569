-- THE REFERENCE, small functions over a block and the marks
def mA (mi : mm_M) (a : Nat) : Int → Int := fun z => mi a z.toNat
/-- whyNot -/
def kWhy (B mk : Int → Int) (r x par : Int) : Int :=
  if kOf B r 3 = 0 then (if x = par then 0 else 1) else if mk x ≠ 0 then 0 else if kOf B r 3 = 1 then 2 else if kOf B r 3 = 3 ∨ kOf B r 5 = -1 then (if kOf B r 4 = 1 then 3 else 0)
  else if kCe B (100 * kOf B r 1 + kOf B r 5) < 0 ∨ mk (100 * kOf B r 1 + kOf B r 5) ≠ 0 then 4 else 0
/-- lay: a row's two values in one number -/
def kLay (B : Int → Int) (x c v : Int) : Int := if c = 0 then 101 * (v + 1) + (kV B x 1 + 1) else 101 * (kV B x 0 + 1) + v + 1
section KF
variable {X : Nat × (Nat → Int)} {mi : mm_M} {h : mm_H} {Q : Option mm_V → mm_S → Prop} {b : Int}
theorem kV_in {B : Int → Int} {x c : Int} (h1 : 0 ≤ kCe B x ∧ kCe B x ≤ 10200) : -1 ≤ kV B x c ∧ kV B x c ≤ 100 := by
  unfold kV
  split <;> omega
theorem sp97 (hb : kb b) {x c v : Int} (h1 : 0 ≤ x ∧ x < 600) (hc : c = 0 ∨ c = 1) (hv : -1 ≤ v ∧ v ≤ 99) (h2 : 0 ≤ kCe (mB mi b) x ∧ kCe (mB mi b) x ≤ 10200) (hq : Q none (mm_ms0 (mm_up mi 70 (b + 198 + x).toNat (kLay (mB mi b) x c v)) h)) : mcl X 97 [.inr (some 69), .inl b, .inl x, .inl c, .inl v] (mm_ms0 mi h) Q := by
  have hb' := hb
  unfold kb at hb
  have e0 := kV_in (c := 0) h2
  have e1 := kV_in (c := 1) h2
  have wx : mm_w (b + 198) = b + 198 := mm_wi (by omega) (by omega)
  have wy : mm_w (b + 198 + x) = b + 198 + x := mm_wi (by omega) (by omega)
  have wv : mm_w (v + 1) = v + 1 := mm_wi (by omega) (by omega)
  rcases hc with rfl | rfl
  · rw [c97, b97_0, show mm_w (1 - 0) = 1 from mm_wi (by omega) (by omega), sp96 hb' h1 h2, mm_psh_i, b97_9, if_pos rfl, b97_28, b97_51]
    rw [wx, wy, wv, mm_wi (z := kV (mB mi b) x 1 + 1) (by omega) (by omega), mm_wi (z := 101 * (v + 1)) (by omega) (by omega), mm_wi (z := 101 * (v + 1) + (kV (mB mi b) x 1 + 1)) (by omega) (by omega)]
    refine ⟨by omega, ?_⟩
    rw [b97_52]
    exact hq
  · rw [c97, b97_0, show mm_w (1 - 1) = 0 from mm_wi (by omega) (by omega), sp96 hb' h1 h2, mm_psh_i, b97_9, if_neg (by omega), b97_41, b97_51]
    rw [wx, wy, mm_wi (z := kV (mB mi b) x 0 + 1) (by omega) (by omega), mm_wi (z := 101 * (kV (mB mi b) x 0 + 1)) (by omega) (by omega), mm_wi (z := 101 * (kV (mB mi b) x 0 + 1) + v) (by omega) (by omega), mm_wi (z := 101 * (kV (mB mi b) x 0 + 1) + v + 1) (by omega) (by omega)]
    refine ⟨by omega, ?_⟩
    rw [b97_52]
    exact hq
theorem sp103 {d x : Int} (h1 : 0 ≤ d ∧ d < 120) (h2 : 0 ≤ x ∧ x < 600) (hq : Q none (mm_ms0 (mm_up (mm_up (mm_up mi 72 x.toNat 1) 73 d.toNat x) 74 d.toNat 0) h)) : mcl X 103 [.inr (some 69), .inl d, .inl x] (mm_ms0 mi h) Q := by
  rw [c103, b103_0]
  refine ⟨⟨h2, Or.inr rfl⟩, ?_⟩
  rw [b103_7]
  refine ⟨h1, ?_⟩
  rw [b103_14]
  refine ⟨h1, ?_⟩
  rw [b103_21]
  exact hq
theorem sp105 (hb : kb b) (hW : kWr (mB mi b)) {r : Int} (h1 : 0 ≤ r ∧ r < mB mi b 1) (h5 : kOf (mB mi b) r 5 ≠ -1) (hq : Q (some (.inl (if kCe (mB mi b) (100 * kOf (mB mi b) r 1 + kOf (mB mi b) r 5) < 0 ∨ mA mi 72 (100 * kOf (mB mi b) r 1 + kOf (mB mi b) r 5) ≠ 0 then 1 else 0))) (mm_ms0 mi h)) : mcl X 105 [.inr (some 69), .inl b, .inl r] (mm_ms0 mi h) Q := by
  have hb' := hb
  unfold kb at hb
  obtain ⟨h0, h10, h20, h30⟩ := hW
  obtain ⟨g0, g1, g2, g3, g4, g5⟩ := h20 r h1.1 h1.2
  rw [c105, b105_0, sp95 hb' (by omega) (by omega), mm_psh_i, b105_9, sp95 hb' (by omega) (by omega), mm_psh_i, b105_17]
  generalize kOf (mB mi b) r 1 = pr at *
  generalize kOf (mB mi b) r 5 = sd at *
  rw [mm_wi (z := b + 198) (by omega) (by omega), mm_wi (z := 100 * pr) (by omega) (by omega), mm_wi (z := 100 * pr + sd) (by omega) (by omega), mm_wi (z := b + 198 + (100 * pr + sd)) (by omega) (by omega)]
  refine ⟨by omega, ?_⟩
  rw [b105_31, mB_2 mi (by omega), show mB mi b (198 + (100 * pr + sd)) = kCe (mB mi b) (100 * pr + sd) from rfl]
  by_cases q1 : kCe (mB mi b) (100 * pr + sd) < 0
  · rw [if_pos (Or.inl q1)] at hq
    rw [if_pos q1, b105_43, b105_48]
    exact ⟨Or.inr rfl, hq⟩
  · rw [if_neg q1, b105_34]
    refine ⟨by omega, ?_⟩
    rw [b105_40, show mi 72 (100 * pr + sd).toNat = mA mi 72 (100 * pr + sd) from rfl]
    by_cases q2 : mA mi 72 (100 * pr + sd) = 0
    · rw [if_neg (fun z => z.elim q1 (fun z => z q2))] at hq
      rw [if_pos q2, b105_47, b105_48]
      exact ⟨Or.inl rfl, hq⟩
    · rw [if_pos (Or.inr q2)] at hq
      rw [if_neg q2, b105_43, b105_48]
      exact ⟨Or.inr rfl, hq⟩
theorem sp106 (hb : kb b) (hW : kWr (mB mi b)) {r x par : Int} (h1 : 0 ≤ r ∧ r < mB mi b 1) (hx : 0 ≤ x ∧ x < 600) (hq : Q (some (.inl (kWhy (mB mi b) (mA mi 72) r x par))) (mm_ms0 mi h)) : mcl X 106 [.inr (some 69), .inl b, .inl r, .inl x, .inl par] (mm_ms0 mi h) Q := by
  have hb' := hb
  have hW' := hW
  unfold kb at hb
  obtain ⟨h0, h10, h20, h30⟩ := hW
  obtain ⟨g0, g1, g2, g3, g4, g5⟩ := h20 r h1.1 h1.2
  unfold kWhy at hq
  rw [c106, b106_0, sp95 hb' (by omega) (by omega), mm_psh_i, b106_7]
  by_cases q1 : kOf (mB mi b) r 3 = 0
  · rw [if_pos q1] at hq ⊢
    rw [b106_14]
    by_cases q2 : x = par
    · rw [if_pos q2] at hq ⊢
      rw [b106_20, b106_25]
      exact hq
    · rw [if_neg q2] at hq ⊢
      rw [b106_24, b106_25]
      exact hq
  · rw [if_neg q1] at hq ⊢
    rw [b106_26]
    refine ⟨by omega, ?_⟩
    rw [b106_32, show mi 72 x.toNat = mA mi 72 x from rfl]
    by_cases q2 : mA mi 72 x = 0
    · rw [if_neg (fun z => z q2)] at hq
      rw [if_pos q2, b106_37]
      by_cases q3 : kOf (mB mi b) r 3 = 1
      · rw [if_pos q3] at hq ⊢
        rw [b106_43]
        exact hq
      · rw [if_neg q3] at hq ⊢
        rw [b106_45]
        have tail : (kOf (mB mi b) r 3 = 3 ∨ kOf (mB mi b) r 5 = -1) → mwp X 106 62 [some (.inr (some 69)), some (.inl b), some (.inl r), some (.inl x), some (.inl par), some (.inl (kOf (mB mi b) r 3))] [] (mm_ms0 mi h) Q := by
          intro q4
          rw [if_pos q4] at hq
          rw [b106_62, sp95 hb' (by omega) (by omega), mm_psh_i, b106_69]
          by_cases q5 : kOf (mB mi b) r 4 = 1
          · rw [if_pos q5] at hq ⊢
            rw [b106_73, b106_78]
            exact hq
          · rw [if_neg q5] at hq ⊢
            rw [b106_77, b106_78]
            exact hq
        by_cases q4 : kOf (mB mi b) r 3 = 3
        · rw [if_pos q4]
          exact tail (Or.inl q4)
        · rw [if_neg q4, b106_51, sp95 hb' (by omega) (by omega), mm_psh_i, b106_58]
          by_cases q5 : kOf (mB mi b) r 5 = -1
          · rw [if_pos q5]
            exact tail (Or.inr q5)
          · rw [if_neg q5, b106_79]
            rw [if_neg (fun z => z.elim q4 q5)] at hq
            refine sp105 hb' hW' h1 q5 ?_
            rw [mm_psh_i, b106_85, mm_ite0]
            split
            · rename_i q6
              rw [if_pos q6] at hq
              rw [b106_88, b106_93]
              exact hq
            · rename_i q6
              rw [if_neg q6] at hq
              rw [b106_92, b106_93]
              exact hq
    · rw [if_pos q2] at hq
      rw [if_neg q2, b106_35]
      exact hq
/-- does the value have its parent -/
abbrev kIsRow (B : Int → Int) (t k : Int) : Prop := (0 ≤ t ∧ t < B 0) ∧ (0 ≤ k ∧ k < 100) ∧ 0 ≤ kCe B (100 * t + k)
abbrev kHasP (B : Int → Int) (t c v : Int) : Prop := kIsRow B (kOf B (kRo B t c) 1) v
abbrev kNeed (B : Int → Int) (t c : Int) : Prop := c < kCols B t ∧ kOf B (kRo B t c) 4 = 1
theorem sp94' (hb : kb b) (hW : kWr (mB mi b)) {t k : Int} : mcl X 94 [.inr (some 69), .inl b, .inl t, .inl k] (mm_ms0 mi h) Q = Q (some (.inl (if kIsRow (mB mi b) t k then 1 else 0))) (mm_ms0 mi h) := sp94 hb hW.1
theorem kRo_in (hW : kWr (mB mi b)) (t c : Int) : 0 ≤ kRo (mB mi b) t c ∧ kRo (mB mi b) t c < 12 := by
  have h1 := hW.2.1
  have := kRefN_in (mB mi b) t c (mB mi b 1).toNat
  unfold kRo
  omega
theorem sp110 (hb : kb b) (hW : kWr (mB mi b)) {t c v : Int} (hq : Q (some (.inl (if kHasP (mB mi b) t c v then 1 else 0))) (mm_ms0 mi h)) : mcl X 110 [.inr (some 69), .inl b, .inl t, .inl c, .inl v] (mm_ms0 mi h) Q := by
  rw [c110, b110_0]
  refine sp99 hb hW ?_
  rw [mm_psh_i, b110_11, sp95 hb (kRo_in hW t c) (by omega), mm_psh_i, b110_15, sp94' hb hW, mm_psh_i, b110_20]
  exact ⟨by rw [mm_or01]; trivial, hq⟩
theorem sp111 (hb : kb b) (hW : kWr (mB mi b)) {t c : Int} (hq : Q (some (.inl (if kNeed (mB mi b) t c then 1 else 0))) (mm_ms0 mi h)) : mcl X 111 [.inr (some 69), .inl b, .inl t, .inl c] (mm_ms0 mi h) Q := by
  rw [c111, b111_0]
  refine sp98 hb hW ?_
  rw [mm_psh_i, b111_7]
  by_cases q1 : c < kCols (mB mi b) t
  · rw [if_pos q1, b111_10]
    refine sp99 hb hW ?_
    rw [mm_psh_i, b111_19, sp95 hb (kRo_in hW t c) (by omega), mm_psh_i, b111_23]
    by_cases q2 : kOf (mB mi b) (kRo (mB mi b) t c) 4 = 1
    · rw [if_pos (show kNeed (mB mi b) t c from ⟨q1, q2⟩)] at hq
      rw [if_pos q2, b111_27, b111_32]
      exact ⟨Or.inr rfl, hq⟩
    · rw [if_neg (fun z : kNeed (mB mi b) t c => q2 z.2)] at hq
      rw [if_neg q2, b111_31, b111_32]
      exact ⟨Or.inl rfl, hq⟩
  · rw [if_neg (fun z : kNeed (mB mi b) t c => q1 z.1)] at hq
    rw [if_neg q1, b111_31, b111_32]
    exact ⟨Or.inl rfl, hq⟩
end KF
