-- THE REFERENCE: what it is asked about deletions, and the rest of its calls
theorem kFr.keep {m1 m2 : mm_M} (h : kFr m1 m2) : kKeep m1 m2 := h.toB.keep
theorem kFr.blk {m1 m2 : mm_M} (h : kFr m1 m2) (i : Nat) : kBlk m2 i = kBlk m1 i := h.B _
section KZ
variable {X : Nat × (Nat → Int)} {mi : mm_M} {h : mm_H} {Q : Option mm_V → mm_S → Prop} {b : Int}
noncomputable def kTot (mi : mm_M) (w : Int) : Int := if w = 0 then kBlk mi 0 0 else if w = 1 then kBlk mi 0 1 else if w = 2 then kAll (kBlk mi 0) else if w = 3 then kNulls (kBlk mi 0)
  else if w = 4 then kBlk mi 0 2 else if w = 5 then kBlk mi 0 3 else if w = 6 then kBlk mi 0 4 else if w = 7 then mi 69 1 else if w = 8 then mi 69 4 else -3
theorem sp145 (hM : mOk (kBlk mi 0)) {w : Int} (hq : Q (some (.inl (kTot mi w))) (mm_ms0 mi h)) : mcl X 145 [.inr (some 69), .inl w] (mm_ms0 mi h) Q := by
  unfold kTot at hq
  rw [c145, b145_0]
  by_cases q : w < 0 ∨ 8 < w
  · rw [if_pos q, b145_89]
    rw [if_neg (by omega), if_neg (by omega), if_neg (by omega), if_neg (by omega), if_neg (by omega), if_neg (by omega), if_neg (by omega), if_neg (by omega), if_neg (by omega)] at hq
    exact hq
  · rw [if_neg q]
    by_cases q0 : w = 0
    · subst q0
      rw [if_pos rfl] at hq
      rw [if_pos rfl, b145_52]
      refine ⟨by omega, ?_⟩
      rw [b145_58, mB_0 (mi := mi) (z := 0) (by omega)]
      exact hq
    rw [if_neg q0] at hq ⊢
    by_cases q1 : w = 1
    · subst q1
      rw [if_pos rfl] at hq
      rw [if_pos rfl, b145_52]
      refine ⟨by omega, ?_⟩
      rw [b145_58, mB_0 (mi := mi) (z := 1) (by omega)]
      exact hq
    rw [if_neg q1] at hq ⊢
    by_cases q2 : w = 2
    · rw [if_pos q2] at hq
      rw [if_pos q2, b145_59]
      refine sp101 kb0 hM.1 ?_
      rw [mm_psh_i, b145_64]
      exact hq
    rw [if_neg q2] at hq ⊢
    by_cases q3 : w = 3
    · rw [if_pos q3] at hq
      rw [if_pos q3, b145_65]
      refine sp144 hM ?_
      rw [mm_psh_i, b145_69]
      exact hq
    rw [if_neg q3] at hq ⊢
    by_cases q4 : w = 4
    · subst q4
      rw [if_pos rfl] at hq
      rw [if_pos rfl, b145_70, mm_wi (z := 4 - 2) (by omega) (by omega)]
      refine ⟨by omega, ?_⟩
      rw [b145_78, mB_0 (mi := mi) (z := 4 - 2) (by omega)]
      exact hq
    rw [if_neg q4] at hq ⊢
    by_cases q5 : w = 5
    · subst q5
      rw [if_pos rfl] at hq
      rw [if_pos rfl, b145_70, mm_wi (z := 5 - 2) (by omega) (by omega)]
      refine ⟨by omega, ?_⟩
      rw [b145_78, mB_0 (mi := mi) (z := 5 - 2) (by omega)]
      exact hq
    rw [if_neg q5] at hq ⊢
    by_cases q6 : w = 6
    · subst q6
      rw [if_pos rfl] at hq
      rw [if_pos rfl, b145_70, mm_wi (z := 6 - 2) (by omega) (by omega)]
      refine ⟨by omega, ?_⟩
      rw [b145_78, mB_0 (mi := mi) (z := 6 - 2) (by omega)]
      exact hq
    rw [if_neg q6] at hq ⊢
    by_cases q7 : w = 7
    · rw [if_pos q7] at hq
      rw [if_pos q7, b145_79]
      exact hq
    rw [if_neg q7] at hq ⊢
    rw [if_pos (by omega)] at hq
    rw [b145_84]
    exact hq
def kGiveG (B : Int → Int) (t k i : Int) : Int := if ¬ kIsRow B t k then -2 else if i < 0 then -3 else if i < (kOut B (100 * t + k)).length then gAt (kOut B (100 * t + k)) i.toNat else -9
theorem sp146 (hM : mOk (kBlk mi 0)) {t k i : Int} (hq : ∀ mi2, kKeep mi mi2 → Q (some (.inl (kGiveG (kBlk mi 0) t k i))) (mm_ms0 mi2 h)) : mcl X 146 [.inr (some 69), .inl t, .inl k, .inl i] (mm_ms0 mi h) Q := by
  have w0 := hM.1.1
  unfold kGiveG at hq
  rw [c146, b146_0, sp94' kb0 hM.1, mm_psh_i, b146_7, mm_ite0, ← kBlk_0]
  by_cases q1 : kIsRow (kBlk mi 0) t k
  · rw [if_neg (fun z => z q1)] at hq
    rw [if_pos q1, b146_13]
    by_cases q2 : i < 0
    · rw [if_pos q2] at hq
      rw [if_pos q2, b146_17]
      exact hq mi kKeep.rf
    · rw [if_neg q2] at hq
      have hx : 0 ≤ 100 * t + k ∧ 100 * t + k < 600 := by omega
      obtain ⟨ho1, ho2⟩ := kOut_in hM.1 hM.2.2 hx q1.2.2
      rw [if_neg q2, b146_20, mm_wi (z := 100 * t) (by omega) (by omega), mm_wi (z := 100 * t + k) (by omega) (by omega)]
      refine sp104 kb0 hM.1 hM.2.2 hx q1.2.2 ?_
      intro mi1 hF1 hR1
      rw [← kBlk_0] at hR1
      have hm : mi1 69 16 = (kOut (kBlk mi 0) (100 * t + k)).length := hR1.2.2.1
      rw [mm_psh_n, b146_31, hm]
      by_cases q3 : i < (kOut (kBlk mi 0) (100 * t + k)).length
      · rw [if_pos q3] at hq
        rw [if_pos q3, b146_39]
        refine ⟨by omega, ?_⟩
        rw [b146_45, b146_50, hR1.2.2.2 i.toNat (show i.toNat < (kOut (kBlk mi 0) (100 * t + k)).length by omega) _ (gAt_mem (l := kOut (kBlk mi 0) (100 * t + k)) (by omega)).2]
        exact hq mi1 hF1.keep
      · rw [if_neg q3] at hq
        rw [if_neg q3, b146_48, b146_50]
        exact hq mi1 hF1.keep
  · rw [if_pos q1] at hq
    rw [if_neg q1, b146_10]
    exact hq mi kKeep.rf
theorem sp147 (hM : mOk (kBlk mi 0)) {t k : Int} (h2 : ¬ kIsRow (kBlk mi 0) t k → Q (some (.inl (-2))) (mm_ms0 mi h))
    (h0 : kIsRow (kBlk mi 0) t k → kWhich (kBlk mi 0) (100 * t + k) = none → ∀ mi2, kFr mi mi2 → mkEq (gMk (kBlk mi 0) (100 * t + k)) (mA mi2 72) → mi2 69 16 = (kOut (kBlk mi 0) (100 * t + k)).length → Q (some (.inl 0)) (mm_ms0 mi2 h))
    (hs : kIsRow (kBlk mi 0) t k → ∀ e, e < gR (kBlk mi 0) → kWhich (kBlk mi 0) (100 * t + k) = some e → 0 < gWhy (kBlk mi 0) (gMk (kBlk mi 0) (100 * t + k)) e → ∀ mi2, kFr mi mi2 → mi2 69 17 = gCh (kBlk mi 0) e → Q (some (.inl (gWhy (kBlk mi 0) (gMk (kBlk mi 0) (100 * t + k)) e))) (mm_ms0 mi2 h)) : mcl X 147 [.inr (some 69), .inl t, .inl k] (mm_ms0 mi h) Q := by
  have w0 := hM.1.1
  rw [c147, b147_0, sp94' kb0 hM.1, mm_psh_i, b147_7, mm_ite0, ← kBlk_0]
  by_cases q1 : kIsRow (kBlk mi 0) t k
  · have hx : 0 ≤ 100 * t + k ∧ 100 * t + k < 600 := by omega
    rw [if_pos q1, b147_13, mm_wi (z := 100 * t) (by omega) (by omega), mm_wi (z := 100 * t + k) (by omega) (by omega)]
    refine sp104 kb0 hM.1 hM.2.2 hx q1.2.2 ?_
    intro mi1 hF1 hR1
    rw [← kBlk_0] at hR1
    have hB1 : mB mi1 0 = kBlk mi 0 := hF1.B 0
    have hmk : mkEq (gMk (kBlk mi 0) (100 * t + k)) (mA mi1 72) := hR1.mk
    rw [mm_psh_n, b147_24]
    refine sp107 kb0 (by rw [hB1]; exact hM.1) ?_ ?_
    · intro hn
      rw [hB1, fnx_co (fun e he => gBad_co hM.1 hmk he)] at hn
      rw [mm_psh_i, b147_29]
      exact h0 q1 hn mi1 hF1 hmk hR1.2.2.1
    · intro e he hbad hn
      rw [hB1] at he hbad
      rw [hB1, fnx_co (fun e he => gBad_co hM.1 hmk he)] at hn
      have hw := gWhy_co hM.1 hmk he
      have hpos : 0 < gWhy (kBlk mi 0) (mA mi1 72) e := (of_decide_eq_true hbad).2
      rw [mm_psh_i, b147_29, hB1, hw]
      rw [hw] at hpos
      exact hs q1 e he hn hpos _ (hF1.up (Or.inr (Or.inr (Or.inr (Or.inr ⟨rfl, Or.inr rfl⟩))))) (mm_up_at)
  · rw [if_neg q1, b147_10]
    exact h2 q1
def kGiveWhy (B : Int → Int) (t k : Int) : Int := if ¬ kIsRow B t k then -2 else match kWhich B (100 * t + k) with
  | none => 0
  | some e => gWhy B (gMk B (100 * t + k)) e
theorem sp147' (hM : mOk (kBlk mi 0)) {t k : Int} (hq : ∀ mi2, kKeep mi mi2 → Q (some (.inl (kGiveWhy (kBlk mi 0) t k))) (mm_ms0 mi2 h)) : mcl X 147 [.inr (some 69), .inl t, .inl k] (mm_ms0 mi h) Q := by
  unfold kGiveWhy at hq
  refine sp147 hM ?_ ?_ ?_
  · intro q1
    rw [if_pos q1] at hq
    exact hq mi kKeep.rf
  · intro q1 q2 mi2 hF _ _
    rw [if_neg (fun z => z q1), q2] at hq
    exact hq mi2 hF.keep
  · intro q1 e _ q2 _ mi2 hF _
    rw [if_neg (fun z => z q1), q2] at hq
    exact hq mi2 hF.keep
def kGiveBl (B : Int → Int) (t k : Int) : Int := if ¬ kIsRow B t k then -2 else match kWhich B (100 * t + k) with
  | none => -9
  | some e => gCh B e
theorem sp148 (hM : mOk (kBlk mi 0)) {t k : Int} (hq : ∀ mi2, kKeep mi mi2 → Q (some (.inl (kGiveBl (kBlk mi 0) t k))) (mm_ms0 mi2 h)) : mcl X 148 [.inr (some 69), .inl t, .inl k] (mm_ms0 mi h) Q := by
  unfold kGiveBl at hq
  rw [c148, b148_0]
  refine sp147 hM ?_ ?_ ?_
  · intro q1
    rw [if_pos q1] at hq
    rw [mm_psh_i, b148_6, if_neg (by omega), b148_18, if_neg (by omega), b148_27, b148_28]
    exact hq mi kKeep.rf
  · intro q1 q2 mi2 hF _ _
    rw [if_neg (fun z => z q1), q2] at hq
    rw [mm_psh_i, b148_6, if_neg (by omega), b148_18, if_pos rfl, b148_22, b148_28]
    exact hq mi2 hF.keep
  · intro q1 e _ q2 hp mi2 hF h17
    rw [if_neg (fun z => z q1), q2] at hq
    rw [mm_psh_i, b148_6, if_pos hp, b148_11, b148_28, h17]
    exact hq mi2 hF.keep
def kGiveWc (B : Int → Int) (t k : Int) : Int := if ¬ kIsRow B t k then -2 else match kWhich B (100 * t + k) with
  | none => cnt (gR B) (fun e => decide (gHitU B (gMk B (100 * t + k)) e))
  | some _ => -8
theorem sp149 (hM : mOk (kBlk mi 0)) {t k : Int} (hq : ∀ mi2, kKeep mi mi2 → Q (some (.inl (kGiveWc (kBlk mi 0) t k))) (mm_ms0 mi2 h)) : mcl X 149 [.inr (some 69), .inl t, .inl k] (mm_ms0 mi h) Q := by
  unfold kGiveWc at hq
  rw [c149, b149_0]
  refine sp147 hM ?_ ?_ ?_
  · intro q1
    rw [if_pos q1] at hq
    rw [mm_psh_i, b149_6, if_neg (by omega), b149_16, if_neg (by omega), b149_29, b149_30]
    exact hq mi kKeep.rf
  · intro q1 q2 mi2 hF hmk _
    rw [if_neg (fun z => z q1), q2] at hq
    rw [mm_psh_i, b149_6, if_neg (by omega), b149_16, if_pos rfl, b149_20]
    have hB : mB mi2 0 = kBlk mi 0 := hF.B 0
    refine sp108 kb0 (by rw [hB]; exact hM.1) (Or.inl rfl) ?_ (fun z => by omega)
    intro _
    rw [mm_psh_i, b149_26, b149_30, hB, cnt_co (q := fun e => decide (gHitU (kBlk mi 0) (gMk (kBlk mi 0) (100 * t + k)) e)) (fun e he => by
      have := gHitU_co hM.1 hmk he
      apply Bool.eq_iff_iff.mpr
      rw [decide_eq_true_eq, decide_eq_true_eq, this])]
    exact hq mi2 hF.keep
  · intro q1 e _ q2 hp mi2 hF h17
    rw [if_neg (fun z => z q1), q2] at hq
    rw [mm_psh_i, b149_6, if_pos hp, b149_11, b149_30]
    exact hq mi2 hF.keep
def kFree (B : Int → Int) (t k : Int) : Prop := kIsRow B t k ∧ kWhich B (100 * t + k) = none ∧ (kOut B (100 * t + k)).length = 1
noncomputable def kFreeB (B : Int → Int) (t : Int) (k : Nat) : Bool := @decide (kFree B t k) (Classical.propDecidable _)
noncomputable def kGiveDe (B : Int → Int) (t : Int) : Int := if ¬ (0 ≤ t ∧ t < B 0) then -2 else cnt 100 (kFreeB B t)
theorem kFreeB_y {B : Int → Int} {t : Int} {k : Nat} (hf : kFree B t k) : kFreeB B t k = true := by unfold kFreeB; exact @decide_eq_true _ (Classical.propDecidable _) hf
theorem kFreeB_n {B : Int → Int} {t : Int} {k : Nat} (hf : ¬ kFree B t k) : kFreeB B t k = false := by unfold kFreeB; exact @decide_eq_false _ (Classical.propDecidable _) hf
theorem sp152 (hM : mOk (kBlk mi 0)) {t : Int} (hq : ∀ mi2, kKeep mi mi2 → Q (some (.inl (kGiveDe (kBlk mi 0) t))) (mm_ms0 mi2 h)) : mcl X 152 [.inr (some 69), .inl t] (mm_ms0 mi h) Q := by
  have w0 := hM.1.1
  unfold kGiveDe at hq
  rw [c152, b152_0, sp92 kb0 w0, mm_psh_i, b152_6, mm_ite0, ← kBlk_0]
  by_cases q1 : 0 ≤ t ∧ t < kBlk mi 0 0
  · rw [if_neg (fun z => z q1)] at hq
    rw [if_pos q1, b152_12]
    refine mm_for (fun n => ∀ mi2, kFr mi mi2 → mwp X 152 16 [some (.inr (some 69)), some (.inl t), some (.inl (cnt n (kFreeB (kBlk mi 0) t))), some (.inl (n : Int))] [] (mm_ms0 mi2 h) Q) 100 ?_ ?_ 0 (Nat.zero_le _) mi kFr.rf
    · intro mi2 hF
      rw [b152_16, if_neg (by omega), b152_63]
      exact hq mi2 hF.keep
    · intro n hn ih mi2 hF
      have c1 := cnt_nn n (kFreeB (kBlk mi 0) t)
      have c2 := cnt_le n (kFreeB (kBlk mi 0) t)
      have hB : kBlk mi2 0 = kBlk mi 0 := hF.B 0
      rw [cnt_succ] at ih
      have no : kFreeB (kBlk mi 0) t n = false → ∀ mi3, kFr mi mi3 → mwp X 152 54 [some (.inr (some 69)), some (.inl t), some (.inl (cnt n (kFreeB (kBlk mi 0) t))), some (.inl (n : Int))] [.inl (cnt n (kFreeB (kBlk mi 0) t))] (mm_ms0 mi3 h) Q := by
        intro hf mi3 hF3
        rw [b152_54, b152_55, mm_wi (by omega) (by omega), mm_wi (by omega) (by omega)]
        rw [hf, if_neg (by decide)] at ih
        exact ih mi3 hF3
      rw [b152_16, if_pos (by omega), b152_22, sp94' kb0 (by rw [← kBlk_0, hB]; exact hM.1), mm_psh_i, b152_30, mm_ite0, ← kBlk_0, hB]
      by_cases q2 : kIsRow (kBlk mi 0) t n
      · rw [if_pos q2, b152_33]
        refine sp147 (by rw [hB]; exact hM) ?_ ?_ ?_
        · intro z
          rw [hB] at z
          exact absurd q2 z
        · intro _ q3 mi3 hF3 _ h16
          rw [hB] at q3 h16
          have hlen : (kOut (kBlk mi 0) (100 * t + n)).length = 1 → kFree (kBlk mi 0) t n := fun z => ⟨q2, q3, z⟩
          have hlen2 : (kOut (kBlk mi 0) (100 * t + n)).length ≠ 1 → ¬ kFree (kBlk mi 0) t n := fun z y => z y.2.2
          generalize (kOut (kBlk mi 0) (100 * t + n)).length = len at h16 hlen hlen2
          rw [mm_psh_i, b152_39, if_pos rfl, b152_42, h16]
          by_cases q4 : len = 1
          · rw [if_pos (by omega), b152_50, b152_55, mm_wi (by omega) (by omega), mm_wi (by omega) (by omega)]
            rw [kFreeB_y (hlen q4), if_pos rfl] at ih
            exact ih mi3 (hF.tr hF3)
          · rw [if_neg (by omega)]
            exact no (kFreeB_n (hlen2 q4)) mi3 (hF.tr hF3)
        · intro _ e _ q3 hp mi3 hF3 _
          rw [hB] at q3 hp
          rw [mm_psh_i, b152_39, hB, if_neg (by omega)]
          exact no (kFreeB_n (fun z => by have z2 := z.2.1; rw [q3] at z2; cases z2)) mi3 (hF.tr hF3)
      · rw [if_neg q2]
        exact no (kFreeB_n (fun z => q2 z.1)) mi2 hF
  · rw [if_pos q1] at hq
    rw [if_neg q1, b152_9]
    exact hq mi kKeep.rf
end KZ
