-- THE REFERENCE: the calls that change it
def mOk (B : Int → Int) : Prop := kWr B ∧ (∀ t, kCols B t ≤ 2) ∧ (gEx B).length ≤ 120
def kFrP (mi mi2 : mm_M) : Prop := (∀ a, a ≠ 69 → a ≠ 70 → a ≠ 72 → a ≠ 73 → a ≠ 74 → a ≠ 75 → mi2 a = mi a) ∧ ∀ k, k ≠ 1 → ¬ (5 ≤ k ∧ k ≤ 11) → k ≠ 16 → k ≠ 17 → mi2 69 k = mi 69 k
def kKeep (mi mi2 : mm_M) : Prop := kFrP mi mi2 ∧ mi2 69 1 = mi 69 1 ∧ ∀ i, i < 6 → kBlk mi2 i = kBlk mi i
def kTake (mi mi2 : mm_M) (B2 : Int → Int) : Prop := kFrP mi mi2 ∧ mi2 69 1 = kAccN (mi 69 1) ∧ kBlk mi2 0 = B2 ∧ kBlk mi2 5 = kBlk mi 5 ∧ kBlk mi2 (kAccN (mi 69 1)).toNat = kBlk mi 0 ∧
  (mi 69 1 = 4 → ∀ i, 1 ≤ i → i < 4 → kBlk mi2 i = kBlk mi (i + 1)) ∧ (mi 69 1 < 4 → ∀ i : Nat, 1 ≤ i → (i : Int) ≤ mi 69 1 → kBlk mi2 i = kBlk mi i)
theorem kKeep.rf {mi : mm_M} : kKeep mi mi := ⟨⟨fun _ _ _ _ _ _ _ => rfl, fun _ _ _ _ _ => rfl⟩, rfl, fun _ _ => rfl⟩
theorem kFrP.tr {m1 m2 m3 : mm_M} (h1 : kFrP m1 m2) (h2 : kFrP m2 m3) : kFrP m1 m3 := ⟨fun a q1 q2 q3 q4 q5 q6 => (h2.1 a q1 q2 q3 q4 q5 q6).trans (h1.1 a q1 q2 q3 q4 q5 q6), fun k q1 q2 q3 q4 => (h2.2 k q1 q2 q3 q4).trans (h1.2 k q1 q2 q3 q4)⟩
theorem kKeep.tr {m1 m2 m3 : mm_M} (h1 : kKeep m1 m2) (h2 : kKeep m2 m3) : kKeep m1 m3 := ⟨h1.1.tr h2.1, h2.2.1.trans h1.2.1, fun i hi => (h2.2.2 i hi).trans (h1.2.2 i hi)⟩
theorem kBlk_0 (mi : mm_M) : kBlk mi 0 = mB mi 0 := rfl
theorem kBlk_6 (mi : mm_M) : kBlk mi 6 = mB mi 4788 := rfl
theorem kFrB.keep {m1 m2 : mm_M} (h : kFrB 4788 m1 m2) : kKeep m1 m2 := ⟨⟨h.1, fun k _ _ q1 q2 => h.2.1 k q1 q2⟩, h.2.1 1 (by decide) (by decide), fun i hi => h.other (by omega) (by omega)⟩
theorem kKeep.cp {mi : mm_M} : kKeep mi (kCp mi 0 6) := ⟨⟨fun a _ q _ _ _ _ => kCp_ne q, fun k _ _ _ _ => by rw [kCp_ne (by decide)]⟩, by rw [kCp_ne (by decide)], fun i hi => kCp_off (by omega)⟩
def kb0 : kb 0 := Or.inl rfl
def kb6 : kb 4788 := Or.inr rfl
section KA
variable {X : Nat × (Nat → Int)} {mi : mm_M} {h : mm_H} {Q : Option mm_V → mm_S → Prop} {b : Int}
theorem sp115' {mi1 : mm_M} {v : Int} (hK : kKeep mi mi1) (hs : 0 ≤ mi 69 1 ∧ mi 69 1 ≤ 4) (h0 : v < -1 → Q (some (.inl v)) (mm_ms0 mi1 h)) (h1 : -1 ≤ v → ∀ mi2, kTake mi mi2 (kBlk mi1 6) → Q (some (.inl v)) (mm_ms0 mi2 h)) : mcl X 115 [.inr (some 69), .inl v] (mm_ms0 mi1 h) Q := by
  obtain ⟨hF, e1, eb⟩ := hK
  refine sp115 (by rw [e1]; exact hs) h0 ?_
  intro hv mi2 ⟨f0, f1, f2, f3, f4, f5, f6, f7⟩
  rw [e1] at f2 f5 f6 f7
  refine h1 hv mi2 ⟨⟨fun a q1 q2 q3 q4 q5 q6 => (f0 a q1 q2).trans (hF.1 a q1 q2 q3 q4 q5 q6), fun k q1 q2 q3 q4 => (f1 k q1).trans (hF.2 k q1 q2 q3 q4)⟩, f2, f3, f4.trans (eb 5 (by decide)), f5.trans (eb 0 (by decide)), fun hh i hi hi2 => (f6 hh i hi hi2).trans (eb _ (by omega)), fun hh i hi hi2 => (f7 hh i hi hi2).trans (eb _ (by omega))⟩
/-- a change tried on the block of work, then taken or dropped -/
abbrev kAct (mi : mm_M) (h : mm_H) (Q : Option mm_V → mm_S → Prop) (r : Int × (Int → Int)) : Prop := (r.1 < -1 → ∀ mi2, kKeep mi mi2 → Q (some (.inl r.1)) (mm_ms0 mi2 h)) ∧ (-1 ≤ r.1 → ∀ mi2, kTake mi mi2 r.2 → Q (some (.inl r.1)) (mm_ms0 mi2 h))
theorem sp119 (hM : mOk (kBlk mi 0)) (hs : 0 ≤ mi 69 1 ∧ mi 69 1 ≤ 4) {t k v0 v1 : Int} (hq : kAct mi h Q (kIns (kBlk mi 0) t k v0 v1)) : mcl X 119 [.inr (some 69), .inl t, .inl k, .inl v0, .inl v1] (mm_ms0 mi h) Q := by
  rw [c119, b119_0]
  refine sp114 (f := 0) (t := 6) (by omega) (by omega) (by omega) ?_
  have hB : mB (kCp mi 0 6) 4788 = kBlk mi 0 := kCp_at mi 0 6
  rw [mm_psh_n, b119_7]
  refine sp112 kb6 (by rw [hB]; exact hM.1) ?_
  intro a mi2 he hF
  rw [hB] at he
  rw [he] at hq
  rw [mm_psh_i, b119_20]
  refine sp115' (kKeep.cp.tr hF.keep) hs ?_ ?_
  · intro hv
    rw [mm_psh_i, b119_23]
    exact hq.1 hv _ (kKeep.cp.tr hF.keep)
  · intro hv mi3 hT
    rw [mm_psh_i, b119_23]
    exact hq.2 hv mi3 hT
theorem sp120 (hM : mOk (kBlk mi 0)) (hs : 0 ≤ mi 69 1 ∧ mi 69 1 ≤ 4) {t k c v : Int} (hq : kAct mi h Q (kUpd (kBlk mi 0) t k c v)) : mcl X 120 [.inr (some 69), .inl t, .inl k, .inl c, .inl v] (mm_ms0 mi h) Q := by
  rw [c120, b120_0]
  refine sp114 (f := 0) (t := 6) (by omega) (by omega) (by omega) ?_
  have hB : mB (kCp mi 0 6) 4788 = kBlk mi 0 := kCp_at mi 0 6
  rw [mm_psh_n, b120_7]
  refine sp113 kb6 (by rw [hB]; exact hM.1) (by rw [hB]; exact hM.2.1) ?_
  intro a mi2 he hF
  rw [hB] at he
  rw [he] at hq
  rw [mm_psh_i, b120_20]
  refine sp115' (kKeep.cp.tr hF.keep) hs ?_ ?_
  · intro hv
    rw [mm_psh_i, b120_23]
    exact hq.1 hv _ (kKeep.cp.tr hF.keep)
  · intro hv mi3 hT
    rw [mm_psh_i, b120_23]
    exact hq.2 hv mi3 hT
theorem sp121 (hM : mOk (kBlk mi 0)) (hs : 0 ≤ mi 69 1 ∧ mi 69 1 ≤ 4) {t k : Int} (hq : kAct mi h Q (kDele (kBlk mi 0) t k)) : mcl X 121 [.inr (some 69), .inl t, .inl k] (mm_ms0 mi h) Q := by
  rw [c121, b121_0]
  refine sp114 (f := 0) (t := 6) (by omega) (by omega) (by omega) ?_
  have hB : mB (kCp mi 0 6) 4788 = kBlk mi 0 := kCp_at mi 0 6
  rw [mm_psh_n, b121_7]
  refine sp109 kb6 (by rw [hB]; exact hM.1) (by rw [hB]; exact hM.2.2) ?_
  intro a mi2 he hF
  rw [hB] at he
  rw [he] at hq
  rw [mm_psh_i, b121_17]
  refine sp115' (kKeep.cp.tr hF.keep) hs ?_ ?_
  · intro hv
    rw [mm_psh_i, b121_20]
    exact hq.1 hv _ (kKeep.cp.tr hF.keep)
  · intro hv mi3 hT
    rw [mm_psh_i, b121_20]
    exact hq.2 hv mi3 hT
def kAddT (B : Int → Int) : Int × (Int → Int) := if B 0 = 6 then (-4, B) else (B 0, bUp B 0 (B 0 + 1))
def kSetR (B : Int → Int) (r v : Int) : Int × (Int → Int) := if ¬ (0 ≤ r ∧ r < B 1) then (-2, B) else if ¬ (0 ≤ v ∧ v ≤ 4) then (-3, B) else if kOf B r 3 = v then (-9, B) else (kOf B r 3, bUp B (6 + 6 * r + 3) v)
theorem mB_0 {mi : mm_M} {z : Int} (hz : 0 ≤ z ∧ z < 798) : mi 70 z.toNat = kBlk mi 0 z := by rw [kBlk_0, mB_in _ hz, Int.zero_add]
theorem sp116 (hM : mOk (kBlk mi 0)) (hs : 0 ≤ mi 69 1 ∧ mi 69 1 ≤ 4) (hq : kAct mi h Q (kAddT (kBlk mi 0))) : mcl X 116 [.inr (some 69)] (mm_ms0 mi h) Q := by
  have w0 := hM.1.1
  unfold kAddT at hq
  rw [c116, b116_0]
  refine ⟨by omega, ?_⟩
  rw [b116_6, show mi 70 (Int.toNat 0) = kBlk mi 0 0 from mB_0 (by omega)]
  by_cases q1 : kBlk mi 0 0 = 6
  · rw [if_pos q1] at hq
    rw [if_pos q1, b116_11]
    exact hq.1 (by show (-4 : Int) < -1; decide) mi kKeep.rf
  · rw [if_neg q1] at hq
    rw [if_neg q1, b116_14]
    refine sp114 (f := 0) (t := 6) (by omega) (by omega) (by omega) ?_
    have hB : mB (kCp mi 0 6) 4788 = kBlk mi 0 := kCp_at mi 0 6
    have hK := kKeep.cp (mi := mi)
    rw [mm_psh_n, b116_21]
    refine ⟨by omega, ?_⟩
    rw [b116_30]
    refine ⟨by omega, ?_⟩
    generalize kCp mi 0 6 = mi1 at hB hK ⊢
    have hv : mi1 70 (Int.toNat 4788) = kBlk mi 0 0 := by rw [← hB, mB_in _ (by omega)]; rfl
    rw [hv, mm_wi (z := kBlk mi 0 0 + 1) (by omega) (by omega)]
    have hF := kFrB.up (b := 4788) (w := 0) (v := kBlk mi 0 0 + 1) (mi := mi1) (by omega) (by omega)
    have hB2 : mB (mm_up mi1 70 (4788 + 0 : Int).toNat (kBlk mi 0 0 + 1)) 4788 = bUp (kBlk mi 0) 0 (kBlk mi 0 0 + 1) := by rw [mB_up (by omega) (by omega), hB]
    rw [show (4788 + 0 : Int) = 4788 from rfl] at hF hB2
    have hK2 := hK.tr hF.keep
    generalize mm_up mi1 70 (Int.toNat 4788) (kBlk mi 0 0 + 1) = mi2 at hB2 hK2 ⊢
    rw [b116_33]
    refine ⟨by omega, ?_⟩
    rw [b116_40, show mi2 70 (Int.toNat 0) = kBlk mi2 0 0 from mB_0 (by omega), hK2.2.2 0 (by decide)]
    refine sp115' hK2 hs (fun hv => by omega) ?_
    intro hv mi3 hT
    rw [mm_psh_i, b116_43]
    refine hq.2 hv mi3 ?_
    rw [kBlk_6, hB2] at hT
    exact hT
theorem sp118 (hM : mOk (kBlk mi 0)) (hs : 0 ≤ mi 69 1 ∧ mi 69 1 ≤ 4) {r v : Int} (hq : kAct mi h Q (kSetR (kBlk mi 0) r v)) : mcl X 118 [.inr (some 69), .inl r, .inl v] (mm_ms0 mi h) Q := by
  have w1 := hM.1.2.1
  unfold kSetR at hq
  rw [c118, b118_0, sp93 w1, mm_psh_i, b118_5, mm_ite0, ← kBlk_0]
  by_cases q1 : 0 ≤ r ∧ r < kBlk mi 0 1
  · have hk := hM.1.2.2.1 r q1.1 q1.2
    rw [if_neg (fun z => z q1)] at hq
    rw [if_pos q1, b118_11, sp91, mm_psh_i, b118_17, mm_ite0]
    by_cases q2 : 0 ≤ v ∧ v ≤ 4
    · rw [if_neg (fun z => z q2)] at hq
      rw [if_pos q2, b118_23, sp95 kb0 (by omega) (by omega), mm_psh_i, b118_30, ← kBlk_0]
      by_cases q3 : kOf (kBlk mi 0) r 3 = v
      · rw [if_pos q3] at hq
        rw [if_pos q3, b118_36]
        exact hq.1 (by show (-9 : Int) < -1; decide) mi kKeep.rf
      · rw [if_neg q3] at hq
        rw [if_neg q3, b118_39]
        refine sp114 (f := 0) (t := 6) (by omega) (by omega) (by omega) ?_
        have hB : mB (kCp mi 0 6) 4788 = kBlk mi 0 := kCp_at mi 0 6
        have hK := kKeep.cp (mi := mi)
        rw [mm_psh_n, b118_46]
        generalize kCp mi 0 6 = mi1 at hB hK ⊢
        rw [mm_wi (z := 6 * r) (by omega) (by omega), mm_wi (z := 4794 + 6 * r) (by omega) (by omega), mm_wi (z := 4794 + 6 * r + 3) (by omega) (by omega)]
        refine ⟨by omega, ?_⟩
        have hF := kFrB.up (b := 4788) (w := 6 + 6 * r + 3) (v := v) (mi := mi1) (by omega) (by omega)
        have hB2 : mB (mm_up mi1 70 (4788 + (6 + 6 * r + 3) : Int).toNat v) 4788 = bUp (kBlk mi 0) (6 + 6 * r + 3) v := by rw [mB_up (by omega) (by omega), hB]
        rw [show (4788 + (6 + 6 * r + 3) : Int) = 4794 + 6 * r + 3 by omega] at hF hB2
        have hK2 := hK.tr hF.keep
        generalize mm_up mi1 70 (4794 + 6 * r + 3).toNat v = mi2 at hB2 hK2 ⊢
        rw [b118_62]
        have h3 := hk.2.2.2.1
        refine sp115' hK2 hs (fun hv => by omega) ?_
        intro hv mi3 hT
        rw [mm_psh_i, b118_67]
        refine hq.2 hv mi3 ?_
        rw [kBlk_6, hB2] at hT
        exact hT
    · rw [if_pos q2] at hq
      rw [if_neg q2, b118_20]
      exact hq.1 (by show (-3 : Int) < -1; decide) mi kKeep.rf
  · rw [if_pos q1] at hq
    rw [if_neg q1, b118_8]
    exact hq.1 (by show (-2 : Int) < -1; decide) mi kKeep.rf
end KA
