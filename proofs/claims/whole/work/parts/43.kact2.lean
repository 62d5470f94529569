-- THE REFERENCE: references added, text typed, undo, keep, restore
def kAddRB (B : Int → Int) (c p rule q d : Int) : Int → Int := bUp (bUp (bUp (bUp (bUp (bUp (bUp B (6 + 6 * B 1 + 0) c) (6 + 6 * B 1 + 1) p) (6 + 6 * B 1 + 2) (kCols B c)) (6 + 6 * B 1 + 3) rule) (6 + 6 * B 1 + 4) (if q = 0 then 0 else 1)) (6 + 6 * B 1 + 5) d) 1 (B 1 + 1)
def kBadR (B : Int → Int) (c p : Int) : Prop := ¬ ((0 ≤ c ∧ c < B 0) ∧ (0 ≤ p ∧ p < B 0))
def kBadN (rule d : Int) : Prop := ¬ ((0 ≤ rule ∧ rule ≤ 4) ∧ (-1 ≤ d ∧ d ≤ 99))
noncomputable def kAddR (B : Int → Int) (c p rule q d : Int) : Int × (Int → Int) :=
  @ite _ (kBadR B c p) (Classical.propDecidable _) (-2, B) (@ite _ (kBadN rule d) (Classical.propDecidable _) (-3, B)
    (if B 1 = 12 ∨ kCols B c = 2 then (-4, B) else if 0 < kRows B c then (-8, B) else (B 1, kAddRB B c p rule q d)))
section KS
variable {X : Nat × (Nat → Int)} {mi : mm_M} {h : mm_H} {Q : Option mm_V → mm_S → Prop} {b : Int}
theorem kUp6 {m1 : mm_M} {B : Int → Int} {w v : Int} (hK : kKeep mi m1) (hB : mB m1 4788 = B) (hw : 0 ≤ w ∧ w < 798) : kKeep mi (mm_up m1 70 (4788 + w).toNat v) ∧ mB (mm_up m1 70 (4788 + w).toNat v) 4788 = bUp B w v :=
  ⟨hK.tr (kFrB.up (by omega) hw).keep, by rw [mB_up (by omega) hw, hB]⟩
theorem sp117 (hM : mOk (kBlk mi 0)) (hs : 0 ≤ mi 69 1 ∧ mi 69 1 ≤ 4) {c p rule q d : Int} (hq : kAct mi h Q (kAddR (kBlk mi 0) c p rule q d)) : mcl X 117 [.inr (some 69), .inl c, .inl p, .inl rule, .inl q, .inl d] (mm_ms0 mi h) Q := by
  have w0 := hM.1.1
  have w1 := hM.1.2.1
  unfold kAddR at hq
  have no2 : kBadR (kBlk mi 0) c p → mwp X 117 18 [some (.inr (some 69)), some (.inl c), some (.inl p), some (.inl rule), some (.inl q), some (.inl d), none] [] (mm_ms0 mi h) Q := by
    intro hn
    rw [if_pos hn] at hq
    rw [b117_18]
    exact hq.1 (by show (-2 : Int) < -1; decide) mi kKeep.rf
  rw [c117, b117_0, sp92 kb0 w0, mm_psh_i, b117_6, mm_ite0, ← kBlk_0]
  by_cases q1 : 0 ≤ c ∧ c < kBlk mi 0 0
  · rw [if_pos q1, b117_9, sp92 kb0 w0, mm_psh_i, b117_15, mm_ite0, ← kBlk_0]
    by_cases q2 : 0 ≤ p ∧ p < kBlk mi 0 0
    · rw [if_neg (show ¬ kBadR (kBlk mi 0) c p from fun z => z ⟨q1, q2⟩)] at hq
      have no3 : kBadN rule d → mwp X 117 41 [some (.inr (some 69)), some (.inl c), some (.inl p), some (.inl rule), some (.inl q), some (.inl d), none] [] (mm_ms0 mi h) Q := by
        intro hn
        rw [if_pos hn] at hq
        rw [b117_41]
        exact hq.1 (by show (-3 : Int) < -1; decide) mi kKeep.rf
      rw [if_pos q2, b117_21, sp91, mm_psh_i, b117_27, mm_ite0]
      by_cases q3 : 0 ≤ rule ∧ rule ≤ 4
      · rw [if_pos q3, b117_30, sp91, mm_psh_i, b117_38, mm_ite0]
        by_cases q4 : -1 ≤ d ∧ d ≤ 99
        · rw [if_neg (show ¬ kBadN rule d from fun z => z ⟨q3, q4⟩)] at hq
          have no4 : (kBlk mi 0 1 = 12 ∨ kCols (kBlk mi 0) c = 2) → mwp X 117 65 [some (.inr (some 69)), some (.inl c), some (.inl p), some (.inl rule), some (.inl q), some (.inl d), none] [] (mm_ms0 mi h) Q := by
            intro hn
            rw [if_pos hn] at hq
            rw [b117_65]
            exact hq.1 (by show (-4 : Int) < -1; decide) mi kKeep.rf
          rw [if_pos q4, b117_44]
          refine ⟨by omega, ?_⟩
          rw [b117_50, mB_0 (mi := mi) (z := 1) (by omega)]
          by_cases q5 : kBlk mi 0 1 = 12
          · rw [if_pos q5]
            exact no4 (Or.inl q5)
          · rw [if_neg q5, b117_55]
            refine sp98 kb0 hM.1 ?_
            rw [mm_psh_i, b117_61, ← kBlk_0]
            by_cases q6 : kCols (kBlk mi 0) c = 2
            · rw [if_pos q6]
              exact no4 (Or.inr q6)
            · rw [if_neg (fun z => z.elim q5 q6)] at hq
              rw [if_neg q6, b117_68]
              refine sp100 kb0 (by omega) ?_
              rw [mm_psh_i, b117_74, ← kBlk_0]
              by_cases q7 : 0 < kRows (kBlk mi 0) c
              · rw [if_pos q7] at hq
                rw [if_pos q7, b117_77]
                exact hq.1 (by show (-8 : Int) < -1; decide) mi kKeep.rf
              · rw [if_neg q7] at hq
                rw [if_neg q7, b117_80]
                refine sp114 (f := 0) (t := 6) (by omega) (by omega) (by omega) ?_
                have hB : mB (kCp mi 0 6) 4788 = kBlk mi 0 := kCp_at mi 0 6
                have hK := kKeep.cp (mi := mi)
                generalize kCp mi 0 6 = m1 at hB hK ⊢
                have hcc := kCols_in hM.1 c
                have h01 : m1 70 (Int.toNat 1) = kBlk mi 0 1 := by rw [mB_0 (mi := m1) (z := 1) (by omega), hK.2.2 0 (by decide)]
                rw [mm_psh_n, b117_87]
                refine ⟨by omega, ?_⟩
                rw [b117_98, h01, mm_wi (z := 6 * kBlk mi 0 1) (by omega) (by omega), mm_wi (z := 4794 + 6 * kBlk mi 0 1) (by omega) (by omega), mm_wi (z := 4794 + 6 * kBlk mi 0 1 + 0) (by omega) (by omega)]
                refine ⟨by omega, ?_⟩
                rw [show 4794 + 6 * kBlk mi 0 1 + 0 = 4788 + (6 + 6 * kBlk mi 0 1 + 0) by omega]
                obtain ⟨hK2, hB2⟩ := kUp6 (v := c) hK hB (w := 6 + 6 * kBlk mi 0 1 + 0) (by omega)
                generalize mm_up m1 70 (4788 + (6 + 6 * kBlk mi 0 1 + 0)).toNat c = m2 at hK2 hB2 ⊢
                rw [b117_112, mm_wi (z := 4794 + 6 * kBlk mi 0 1 + 1) (by omega) (by omega)]
                refine ⟨by omega, ?_⟩
                rw [show 4794 + 6 * kBlk mi 0 1 + 1 = 4788 + (6 + 6 * kBlk mi 0 1 + 1) by omega]
                obtain ⟨hK3, hB3⟩ := kUp6 (v := p) hK2 hB2 (w := 6 + 6 * kBlk mi 0 1 + 1) (by omega)
                generalize mm_up m2 70 (4788 + (6 + 6 * kBlk mi 0 1 + 1)).toNat p = m3 at hK3 hB3 ⊢
                rw [b117_122]
                have h03 : mB m3 0 = kBlk mi 0 := hK3.2.2 0 (by decide)
                refine sp98 kb0 (by rw [h03]; exact hM.1) ?_
                rw [mm_psh_i, b117_136, mm_wi (z := 4794 + 6 * kBlk mi 0 1 + 2) (by omega) (by omega), h03]
                refine ⟨by omega, ?_⟩
                rw [show 4794 + 6 * kBlk mi 0 1 + 2 = 4788 + (6 + 6 * kBlk mi 0 1 + 2) by omega]
                obtain ⟨hK4, hB4⟩ := kUp6 (v := kCols (kBlk mi 0) c) hK3 hB3 (w := 6 + 6 * kBlk mi 0 1 + 2) (by omega)
                generalize mm_up m3 70 (4788 + (6 + 6 * kBlk mi 0 1 + 2)).toNat (kCols (kBlk mi 0) c) = m4 at hK4 hB4 ⊢
                rw [b117_137, mm_wi (z := 4794 + 6 * kBlk mi 0 1 + 3) (by omega) (by omega)]
                refine ⟨by omega, ?_⟩
                rw [show 4794 + 6 * kBlk mi 0 1 + 3 = 4788 + (6 + 6 * kBlk mi 0 1 + 3) by omega]
                obtain ⟨hK5, hB5⟩ := kUp6 (v := rule) hK4 hB4 (w := 6 + 6 * kBlk mi 0 1 + 3) (by omega)
                generalize mm_up m4 70 (4788 + (6 + 6 * kBlk mi 0 1 + 3)).toNat rule = m5 at hK5 hB5 ⊢
                have go : ∀ u : Int, u = (if q = 0 then 0 else 1) → mwp X 117 165 [some (.inr (some 69)), some (.inl c), some (.inl p), some (.inl rule), some (.inl q), some (.inl d), some (.inl (4794 + 6 * kBlk mi 0 1))] [.inl u, .inl (4794 + 6 * kBlk mi 0 1 + 4), .inr (some 70)] (mm_ms0 m5 h) Q := by
                  intro u hu
                  rw [b117_165]
                  refine ⟨by omega, ?_⟩
                  rw [show 4794 + 6 * kBlk mi 0 1 + 4 = 4788 + (6 + 6 * kBlk mi 0 1 + 4) by omega, hu]
                  obtain ⟨hK6, hB6⟩ := kUp6 (v := (if q = 0 then 0 else 1)) hK5 hB5 (w := 6 + 6 * kBlk mi 0 1 + 4) (by omega)
                  generalize mm_up m5 70 (4788 + (6 + 6 * kBlk mi 0 1 + 4)).toNat (if q = 0 then 0 else 1) = m6 at hK6 hB6 ⊢
                  rw [b117_166, mm_wi (z := 4794 + 6 * kBlk mi 0 1 + 5) (by omega) (by omega)]
                  refine ⟨by omega, ?_⟩
                  rw [show 4794 + 6 * kBlk mi 0 1 + 5 = 4788 + (6 + 6 * kBlk mi 0 1 + 5) by omega]
                  obtain ⟨hK7, hB7⟩ := kUp6 (v := d) hK6 hB6 (w := 6 + 6 * kBlk mi 0 1 + 5) (by omega)
                  generalize mm_up m6 70 (4788 + (6 + 6 * kBlk mi 0 1 + 5)).toNat d = m7 at hK7 hB7 ⊢
                  rw [b117_177]
                  refine ⟨by omega, ?_⟩
                  have h71 : m7 70 (Int.toNat 4789) = kBlk mi 0 1 := by
                    rw [show m7 70 (Int.toNat 4789) = mB m7 4788 1 from mB_1 (b := 4788) (x := 1) m7 (by omega), hB7]
                    unfold bUp
                    rw [if_neg (by omega), if_neg (by omega), if_neg (by omega), if_neg (by omega), if_neg (by omega), if_neg (by omega)]
                  rw [b117_186, h71, mm_wi (z := kBlk mi 0 1 + 1) (by omega) (by omega)]
                  refine ⟨by omega, ?_⟩
                  rw [show (4789 : Int) = 4788 + 1 from rfl]
                  obtain ⟨hK8, hB8⟩ := kUp6 (v := kBlk mi 0 1 + 1) hK7 hB7 (w := 1) (by omega)
                  generalize mm_up m7 70 (4788 + 1 : Int).toNat (kBlk mi 0 1 + 1) = m8 at hK8 hB8 ⊢
                  rw [b117_189]
                  refine ⟨by omega, ?_⟩
                  rw [b117_196, mB_0 (mi := m8) (z := 1) (by omega), hK8.2.2 0 (by decide)]
                  refine sp115' hK8 hs (fun hv => by omega) ?_
                  intro hv mi3 hT
                  rw [mm_psh_i, b117_199]
                  refine hq.2 hv mi3 ?_
                  rw [kBlk_6, hB8] at hT
                  exact hT
                rw [b117_147]
                by_cases q8 : q = 0
                · rw [if_pos q8, b117_164, mm_wi (z := 4794 + 6 * kBlk mi 0 1 + 4) (by omega) (by omega)]
                  exact go 0 (by rw [if_pos q8])
                · rw [if_neg q8, b117_160, mm_wi (z := 4794 + 6 * kBlk mi 0 1 + 4) (by omega) (by omega)]
                  exact go 1 (by rw [if_neg q8])
        · rw [if_neg q4]
          exact no3 (fun z => q4 z.2)
      · rw [if_neg q3]
        exact no3 (fun z => q3 z.1)
    · rw [if_neg q2]
      exact no2 (fun z => q2 z.2)
  · rw [if_neg q1]
    exact no2 (fun z => q1 z.1)
theorem sp122 {v : Int} (h4 : 0 ≤ mi 69 4 ∧ mi 69 4 ≤ 60) (hq : Q (some (.inl (if mi 69 4 = 60 then -4 else mi 69 4 + 1))) (mm_ms0 (if mi 69 4 = 60 then mi else mm_up (mm_up mi 71 (mi 69 4).toNat v) 69 4 (mi 69 4 + 1)) h)) : mcl X 122 [.inr (some 69), .inl v] (mm_ms0 mi h) Q := by
  rw [c122, b122_0]
  by_cases q1 : mi 69 4 = 60
  · rw [if_pos q1, if_pos q1] at hq
    rw [if_pos q1, b122_9]
    exact hq
  · rw [if_neg q1, if_neg q1] at hq
    rw [if_neg q1, b122_12]
    refine ⟨by omega, ?_⟩
    rw [b122_22, mm_up_ne (by decide), mm_wi (z := mi 69 4 + 1) (by omega) (by omega)]
    exact hq
theorem sp123 (hq : Q (some (.inl (mi 69 4))) (mm_ms0 (mm_up mi 69 4 0) h)) : mcl X 123 [.inr (some 69)] (mm_ms0 mi h) Q := by
  rw [c123, b123_0]
  exact hq
/-- undo -/
theorem sp135 (hs : 0 ≤ mi 69 1 ∧ mi 69 1 ≤ 4) (h0 : mi 69 1 = 0 → Q (some (.inl (-9))) (mm_ms0 mi h)) (h1 : 1 ≤ mi 69 1 → Q (some (.inl (mi 69 1 - 1))) (mm_ms0 (mm_up (kCp mi (mi 69 1).toNat 0) 69 1 (mi 69 1 - 1)) h)) : mcl X 135 [.inr (some 69)] (mm_ms0 mi h) Q := by
  rw [c135, b135_0]
  by_cases q1 : mi 69 1 = 0
  · rw [if_pos q1, b135_7]
    exact h0 q1
  · rw [if_neg q1, b135_10]
    have hc : ((mi 69 1).toNat : Int) = mi 69 1 := by omega
    have g := h1 (by omega)
    rw [← hc] at g ⊢
    refine sp114 (f := (mi 69 1).toNat) (t := 0) (by omega) (by omega) (by omega) ?_
    rw [mm_psh_n, b135_19, kCp_ne (by decide), mm_wi (z := mi 69 1 - 1) (by omega) (by omega)]
    rw [hc] at g
    exact g
theorem sp136 (hM : mOk (kBlk mi 0)) (hq : Q (some (.inl (kAll (kBlk mi 0)))) (mm_ms0 (mm_up (kCp mi 0 5) 69 2 1) h)) : mcl X 136 [.inr (some 69)] (mm_ms0 mi h) Q := by
  rw [c136, b136_0]
  refine sp114 (f := 0) (t := 5) (by omega) (by omega) (by omega) ?_
  rw [mm_psh_n, b136_6]
  have hB : mB (mm_up (kCp mi 0 5) 69 2 1) 0 = kBlk mi 0 := by
    rw [mB_eq (mm_up_ne (by decide))]
    exact kCp_off (i := 0) (f := 0) (t := 5) (by decide)
  refine sp101 kb0 (by rw [hB]; exact hM.1) ?_
  rw [mm_psh_i, b136_16, hB]
  exact hq
theorem kKeep.cp5 {mi : mm_M} : kKeep mi (kCp mi 5 6) := ⟨⟨fun a _ q _ _ _ _ => kCp_ne q, fun k _ _ _ _ => by rw [kCp_ne (by decide)]⟩, by rw [kCp_ne (by decide)], fun i hi => kCp_off (by omega)⟩
/-- restore -/
theorem sp137 (hs : 0 ≤ mi 69 1 ∧ mi 69 1 ≤ 4) (h0 : mi 69 2 = 0 → Q (some (.inl (-9))) (mm_ms0 mi h)) (h1 : mi 69 2 ≠ 0 → mOk (kBlk mi 5) ∧ ∀ mi2, kTake mi mi2 (kBlk mi 5) → Q (some (.inl (kAll (kBlk mi 5)))) (mm_ms0 mi2 h)) : mcl X 137 [.inr (some 69)] (mm_ms0 mi h) Q := by
  rw [c137, b137_0]
  by_cases q1 : mi 69 2 = 0
  · rw [if_pos q1, b137_7]
    exact h0 q1
  · obtain ⟨hM, hq⟩ := h1 q1
    rw [if_neg q1, b137_10]
    refine sp114 (f := 5) (t := 6) (by omega) (by omega) (by omega) ?_
    have hB : mB (kCp mi 5 6) 4788 = kBlk mi 5 := kCp_at mi 5 6
    rw [mm_psh_n, b137_17]
    refine sp101 kb6 (by rw [hB]; exact hM.1) ?_
    rw [mm_psh_i, b137_25, hB]
    have hn := (kAllN_in (kBlk mi 5) (kBlk mi 5 0).toNat).1
    refine sp115' kKeep.cp5 hs (fun hv => by unfold kAll at hv; omega) ?_
    intro hv mi2 hT
    rw [mm_psh_i, b137_28]
    rw [kBlk_6, hB] at hT
    exact hq mi2 hT
end KS
