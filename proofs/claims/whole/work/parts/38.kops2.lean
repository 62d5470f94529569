-- THE REFERENCE: inserts and updates, on one block
def kInsB (B : Int → Int) (x v0 v1 : Int) : Int → Int := bUp B (198 + x) (101 * (v0 + 1) + v1 + 1)
def kOutR (B : Int → Int) (t k v0 v1 : Int) : Prop := ¬ ((0 ≤ k ∧ k ≤ 99) ∧ (-1 ≤ v0 ∧ v0 ≤ if 0 < kCols B t then 99 else -1) ∧ (-1 ≤ v1 ∧ v1 ≤ if 1 < kCols B t then 99 else -1))
def kMiss (B : Int → Int) (t v0 v1 : Int) : Prop := (v0 = -1 ∧ kNeed B t 0) ∨ (v1 = -1 ∧ kNeed B t 1)
def kNoP (B : Int → Int) (t v0 v1 : Int) : Prop := (v0 ≠ -1 ∧ ¬ kHasP B t 0 v0) ∨ (v1 ≠ -1 ∧ ¬ kHasP B t 1 v1)
def kNoRow (B : Int → Int) (t k : Int) : Prop := ¬ kIsRow B t k
noncomputable def kIns (B : Int → Int) (t k v0 v1 : Int) : Int × (Int → Int) :=
  @ite _ (0 ≤ t ∧ t < B 0) (Classical.propDecidable _)
    (@ite _ (kOutR B t k v0 v1) (Classical.propDecidable _) (-3, B)
      (@ite _ (kNoRow B t k) (Classical.propDecidable _)
        (@ite _ (kRows B t = 20) (Classical.propDecidable _) (-4, B)
          (@ite _ (kMiss B t v0 v1) (Classical.propDecidable _) (-6, B)
            (@ite _ (kNoP (kInsB B (100 * t + k) v0 v1) t v0 v1) (Classical.propDecidable _) (-7, kInsB B (100 * t + k) v0 v1)
              (kRows (kInsB B (100 * t + k) v0 v1) t, bUp (kInsB B (100 * t + k) v0 v1) 2 (mm_w (B 2 + 1))))))
        (-5, B)))
    (-2, B)
noncomputable def kUpd (B : Int → Int) (t k c v : Int) : Int × (Int → Int) :=
  @ite _ (¬ (kIsRow B t k ∧ 0 ≤ c ∧ c ≤ kCols B t - 1)) (Classical.propDecidable _) (-2, B)
    (@ite _ (¬ (-1 ≤ v ∧ v ≤ 99)) (Classical.propDecidable _) (-3, B)
      (@ite _ (v = -1 ∧ kNeed B t c) (Classical.propDecidable _) (-6, B)
        (@ite _ (v ≠ -1 ∧ ¬ kHasP B t c v) (Classical.propDecidable _) (-7, B)
          (if kV B (100 * t + k) c = v then -9 else kV B (100 * t + k) c, bUp B (198 + (100 * t + k)) (kLay B (100 * t + k) c v)))))
section KP
variable {X : Nat × (Nat → Int)} {mi : mm_M} {h : mm_H} {Q : Option mm_V → mm_S → Prop} {b : Int}
theorem kCols_in {B : Int → Int} (hW : kWr B) (t : Int) : 0 ≤ kCols B t ∧ kCols B t ≤ 12 := by
  have h1 := hW.2.1
  have := cnt_le (B 1).toNat (fun r => decide (kOf B r 0 = t))
  exact ⟨cnt_nn _ _, by unfold kCols; omega⟩
theorem kRows_co {B B2 : Int → Int} {t : Int} (hh : ∀ k, 0 ≤ k → k < 100 → kCe B2 (100 * t + k) = kCe B (100 * t + k)) : kRows B2 t = kRows B t := by
  unfold kRows
  exact cnt_co fun e he => by rw [hh e (by omega) (by omega)]
abbrev fI (b t k v0 v1 c : Int) : List (Option mm_V) := [some (.inr (some 69)), some (.inl b), some (.inl t), some (.inl k), some (.inl v0), some (.inl v1), some (.inl c)]
theorem sp112a (hb : kb b) (hW : kWr (mB mi b)) {t v0 v1 k c : Int} (h7 : kNoP (mB mi b) t v0 v1 → mwp X 112 201 (fI b t k v0 v1 c) [] (mm_ms0 mi h) Q) (h8 : ¬ kNoP (mB mi b) t v0 v1 → mwp X 112 204 (fI b t k v0 v1 c) [] (mm_ms0 mi h) Q) : mwp X 112 165 (fI b t k v0 v1 c) [] (mm_ms0 mi h) Q := by
  rw [b112_165]
  have go9 : ¬ (v0 ≠ -1 ∧ ¬ kHasP (mB mi b) t 0 v0) → mwp X 112 183 (fI b t k v0 v1 c) [] (mm_ms0 mi h) Q := by
    intro n8
    rw [b112_183]
    by_cases q9 : v1 = -1
    · rw [if_pos q9]
      exact h8 (fun z => z.elim n8 (fun y => y.1 q9))
    · rw [if_neg q9, b112_189]
      refine sp110 hb hW ?_
      rw [mm_psh_i, b112_198, mm_ite0]
      by_cases q10 : kHasP (mB mi b) t 1 v1
      · rw [if_pos q10]
        exact h8 (fun z => z.elim n8 (fun y => y.2 q10))
      · rw [if_neg q10]
        exact h7 (Or.inr ⟨q9, q10⟩)
  by_cases q8 : v0 = -1
  · rw [if_pos q8]
    exact go9 (fun z => z.1 q8)
  · rw [if_neg q8, b112_171]
    refine sp110 hb hW ?_
    rw [mm_psh_i, b112_180, mm_ite0]
    by_cases q10 : kHasP (mB mi b) t 0 v0
    · rw [if_pos q10]
      exact go9 (fun z => z.2 q10)
    · rw [if_neg q10]
      exact h7 (Or.inl ⟨q8, q10⟩)
theorem sp112b (hb : kb b) (hW : kWr (mB mi b)) {t v0 v1 k c : Int} (h7 : kMiss (mB mi b) t v0 v1 → mwp X 112 133 (fI b t k v0 v1 c) [] (mm_ms0 mi h) Q) (h8 : ¬ kMiss (mB mi b) t v0 v1 → mwp X 112 136 (fI b t k v0 v1 c) [] (mm_ms0 mi h) Q) : mwp X 112 101 (fI b t k v0 v1 c) [] (mm_ms0 mi h) Q := by
  rw [b112_101]
  have go9 : ¬ (v0 = -1 ∧ kNeed (mB mi b) t 0) → mwp X 112 117 (fI b t k v0 v1 c) [] (mm_ms0 mi h) Q := by
    intro n8
    rw [b112_117]
    by_cases q9 : v1 = -1
    · rw [if_pos q9, b112_123]
      refine sp111 hb hW ?_
      rw [mm_psh_i, b112_130, mm_ite0]
      by_cases q10 : kNeed (mB mi b) t 1
      · rw [if_pos q10]
        exact h7 (Or.inr ⟨q9, q10⟩)
      · rw [if_neg q10]
        exact h8 (fun z => z.elim n8 (fun y => q10 y.2))
    · rw [if_neg q9]
      exact h8 (fun z => z.elim n8 (fun y => q9 y.1))
  by_cases q8 : v0 = -1
  · rw [if_pos q8, b112_107]
    refine sp111 hb hW ?_
    rw [mm_psh_i, b112_114, mm_ite0]
    by_cases q10 : kNeed (mB mi b) t 0
    · rw [if_pos q10]
      exact h7 (Or.inl ⟨q8, q10⟩)
    · rw [if_neg q10]
      exact go9 (fun z => q10 z.2)
  · rw [if_neg q8]
    exact go9 (fun z => q8 z.1)
theorem sp112c (hb : kb b) (hW : kWr (mB mi b)) {t v0 v1 k c : Int} (ht : 0 ≤ t ∧ t < 6) (hk : 0 ≤ k ∧ k ≤ 99) (hv0 : -1 ≤ v0 ∧ v0 ≤ 99) (hv1 : -1 ≤ v1 ∧ v1 ≤ 99) (h7 : kNoP (kInsB (mB mi b) (100 * t + k) v0 v1) t v0 v1 → ∀ mi2, mB mi2 b = kInsB (mB mi b) (100 * t + k) v0 v1 → kFrB b mi mi2 → Q (some (.inl (-7))) (mm_ms0 mi2 h))
    (h8 : ¬ kNoP (kInsB (mB mi b) (100 * t + k) v0 v1) t v0 v1 → ∀ mi2, mB mi2 b = bUp (kInsB (mB mi b) (100 * t + k) v0 v1) 2 (mm_w (mB mi b 2 + 1)) → kFrB b mi mi2 → Q (some (.inl (kRows (kInsB (mB mi b) (100 * t + k) v0 v1) t))) (mm_ms0 mi2 h)) : mwp X 112 136 (fI b t k v0 v1 c) [] (mm_ms0 mi h) Q := by
  have hb' := hb
  unfold kb at hb
  rw [b112_136, mm_wi (z := b + 198) (by omega) (by omega), mm_wi (z := 100 * t) (by omega) (by omega), mm_wi (z := b + 198 + 100 * t) (by omega) (by omega), mm_wi (z := b + 198 + 100 * t + k) (by omega) (by omega), mm_wi (z := v0 + 1) (by omega) (by omega), mm_wi (z := 101 * (v0 + 1)) (by omega) (by omega), mm_wi (z := 101 * (v0 + 1) + v1) (by omega) (by omega), mm_wi (z := 101 * (v0 + 1) + v1 + 1) (by omega) (by omega)]
  refine ⟨by omega, ?_⟩
  rw [show b + 198 + 100 * t + k = b + (198 + (100 * t + k)) by omega]
  have hF2 := (kFrB.rf (b := b) (mi := mi)).up2 (w := 198 + (100 * t + k)) (v := 101 * (v0 + 1) + v1 + 1) (by omega) (by omega)
  have hB2 : mB (mm_up mi 70 (b + (198 + (100 * t + k))).toNat (101 * (v0 + 1) + v1 + 1)) b = kInsB (mB mi b) (100 * t + k) v0 v1 := mB_up (by omega) (by omega)
  have hW2 : kWr (kInsB (mB mi b) (100 * t + k) v0 v1) := hW.up (by omega) (by omega)
  have h2q : kInsB (mB mi b) (100 * t + k) v0 v1 2 = mB mi b 2 := bUp_ne (by omega)
  generalize mm_up mi 70 (b + (198 + (100 * t + k))).toNat (101 * (v0 + 1) + v1 + 1) = mi2 at hF2 hB2 ⊢
  rw [← hB2] at hW2
  refine sp112a hb' hW2 ?_ ?_
  · intro hn
    rw [b112_201]
    exact h7 (by rw [← hB2]; exact hn) mi2 hB2 hF2
  · intro hn
    rw [b112_204, mm_wi (z := b + 2) (by omega) (by omega)]
    refine ⟨by omega, ?_⟩
    rw [b112_213, mB_1 mi2 (by omega), hB2, h2q]
    refine ⟨by omega, ?_⟩
    have hF3 := hF2.up2 (w := 2) (v := mm_w (mB mi b 2 + 1)) (by omega) (by omega)
    have hB3 : mB (mm_up mi2 70 (b + 2).toNat (mm_w (mB mi b 2 + 1))) b = _ := mB_up (by omega) (by omega)
    generalize mm_up mi2 70 (b + 2).toNat (mm_w (mB mi b 2 + 1)) = mi3 at hF3 hB3 ⊢
    rw [b112_216]
    refine sp100 hb' ht ?_
    rw [mm_psh_i, b112_222, hB3, kRows_co (B := mB mi2 b) (B2 := bUp (mB mi2 b) 2 (mm_w (mB mi b 2 + 1))) (fun k h1 h2 => bUp_ne (by omega)), hB2]
    exact h8 (by rw [← hB2]; exact hn) mi3 (by rw [hB3, hB2]) hF3
theorem sp112d {t v0 v1 k c : Int} (h3 : ¬ ((0 ≤ k ∧ k ≤ 99) ∧ (-1 ≤ v0 ∧ v0 ≤ if 0 < c then 99 else -1) ∧ (-1 ≤ v1 ∧ v1 ≤ if 1 < c then 99 else -1)) → mwp X 112 71 (fI b t k v0 v1 c) [] (mm_ms0 mi h) Q)
    (h4 : ((0 ≤ k ∧ k ≤ 99) ∧ (-1 ≤ v0 ∧ v0 ≤ if 0 < c then 99 else -1) ∧ (-1 ≤ v1 ∧ v1 ≤ if 1 < c then 99 else -1)) → mwp X 112 74 (fI b t k v0 v1 c) [] (mm_ms0 mi h) Q) : mwp X 112 27 (fI b t k v0 v1 c) [.inl (if 0 ≤ k ∧ k ≤ 99 then 1 else 0)] (mm_ms0 mi h) Q := by
  rw [b112_27, mm_ite0]
  by_cases q2 : 0 ≤ k ∧ k ≤ 99
  · rw [if_pos q2, b112_30]
    have go1 : ∀ u : Int, u = (if 0 < c then 99 else -1) → mwp X 112 44 (fI b t k v0 v1 c) [.inl u, .inl (-1), .inl v0] (mm_ms0 mi h) Q := by
      intro u hu
      rw [b112_44, sp91, mm_psh_i, b112_47, mm_ite0]
      by_cases q3 : -1 ≤ v0 ∧ v0 ≤ u
      · rw [if_pos q3, b112_50]
        have go2 : ∀ u2 : Int, u2 = (if 1 < c then 99 else -1) → mwp X 112 65 (fI b t k v0 v1 c) [.inl u2, .inl (-1), .inl v1] (mm_ms0 mi h) Q := by
          intro u2 hu2
          rw [b112_65, sp91, mm_psh_i, b112_68, mm_ite0]
          by_cases q4 : -1 ≤ v1 ∧ v1 ≤ u2
          · rw [if_pos q4]
            exact h4 ⟨q2, by rw [← hu]; exact q3, by rw [← hu2]; exact q4⟩
          · rw [if_neg q4]
            exact h3 (fun z => q4 (by rw [hu2]; exact z.2.2))
        by_cases q : 1 < c
        · rw [if_pos q, b112_59]
          exact go2 _ (by rw [if_pos q])
        · rw [if_neg q, b112_64]
          exact go2 _ (by rw [if_neg q])
      · rw [if_neg q3]
        exact h3 (fun z => q3 (by rw [hu]; exact z.2.1))
    by_cases q : 0 < c
    · rw [if_pos q, b112_38]
      exact go1 _ (by rw [if_pos q])
    · rw [if_neg q, b112_43]
      exact go1 _ (by rw [if_neg q])
  · rw [if_neg q2]
    exact h3 (fun z => q2 z.1)
theorem le_99 {p : Prop} {d : Decidable p} {v : Int} (hv : v ≤ if p then 99 else -1) : v ≤ 99 := by
  split at hv <;> omega
theorem sp112 (hb : kb b) (hW : kWr (mB mi b)) {t k v0 v1 : Int} (hq : ∀ a mi2, kIns (mB mi b) t k v0 v1 = (a, mB mi2 b) → kFrB b mi mi2 → Q (some (.inl a)) (mm_ms0 mi2 h)) : mcl X 112 [.inr (some 69), .inl b, .inl t, .inl k, .inl v0, .inl v1] (mm_ms0 mi h) Q := by
  have w0 := hW.1
  rw [c112, b112_0, sp92 hb w0, mm_psh_i, b112_6, mm_ite0]
  unfold kIns at hq
  by_cases q1 : 0 ≤ t ∧ t < mB mi b 0
  · have ht6 : 0 ≤ t ∧ t < 6 := by omega
    rw [if_pos q1] at hq
    rw [if_pos q1, b112_12]
    refine sp98 hb hW ?_
    rw [mm_psh_i, b112_18, sp91, mm_psh_i]
    refine sp112d ?_ ?_
    · intro hn
      rw [if_pos (show kOutR (mB mi b) t k v0 v1 from hn)] at hq
      rw [b112_71]
      exact hq _ mi rfl kFrB.rf
    · intro hn
      rw [if_neg (show ¬ kOutR (mB mi b) t k v0 v1 from fun z => z hn)] at hq
      obtain ⟨hk, hv0, hv1⟩ := hn
      have hv0' := le_99 hv0.2
      have hv1' := le_99 hv1.2
      rw [b112_74, sp94' hb hW, mm_psh_i, b112_81, mm_ite0]
      by_cases q5 : kIsRow (mB mi b) t k
      · rw [if_neg (show ¬ kNoRow (mB mi b) t k from fun z => z q5)] at hq
        rw [if_pos q5, b112_84]
        exact hq _ mi rfl kFrB.rf
      · rw [if_pos (show kNoRow (mB mi b) t k from q5)] at hq
        rw [if_neg q5, b112_87]
        refine sp100 hb ht6 ?_
        rw [mm_psh_i, b112_93]
        by_cases q6 : kRows (mB mi b) t = 20
        · rw [if_pos q6] at hq
          rw [if_pos q6, b112_98]
          exact hq _ mi rfl kFrB.rf
        · rw [if_neg q6] at hq
          rw [if_neg q6]
          refine sp112b hb hW ?_ ?_
          · intro q7
            rw [if_pos q7] at hq
            rw [b112_133]
            exact hq _ mi rfl kFrB.rf
          · intro q7
            rw [if_neg q7] at hq
            refine sp112c hb hW ht6 hk ⟨hv0.1, hv0'⟩ ⟨hv1.1, hv1'⟩ ?_ ?_
            · intro q8 mi2 hB hF
              rw [if_pos q8] at hq
              exact hq _ mi2 (by rw [hB]) hF
            · intro q8 mi2 hB hF
              rw [if_neg q8] at hq
              exact hq _ mi2 (by rw [hB]) hF
  · rw [if_neg q1] at hq
    rw [if_neg q1, b112_9]
    exact hq _ mi rfl kFrB.rf
theorem sp113 (hb : kb b) (hW : kWr (mB mi b)) (hC : ∀ t, kCols (mB mi b) t ≤ 2) {t k c v : Int} (hq : ∀ a mi2, kUpd (mB mi b) t k c v = (a, mB mi2 b) → kFrB b mi mi2 → Q (some (.inl a)) (mm_ms0 mi2 h)) : mcl X 113 [.inr (some 69), .inl b, .inl t, .inl k, .inl c, .inl v] (mm_ms0 mi h) Q := by
  have hb' := hb
  unfold kb at hb
  have w0 := hW.1
  have hcol := kCols_in hW t
  have hC2 := hC t
  have no2 : ¬ (kIsRow (mB mi b) t k ∧ 0 ≤ c ∧ c ≤ kCols (mB mi b) t - 1) → mwp X 113 27 [some (.inr (some 69)), some (.inl b), some (.inl t), some (.inl k), some (.inl c), some (.inl v), none] [] (mm_ms0 mi h) Q := by
    intro hn
    rw [b113_27]
    refine hq _ mi ?_ kFrB.rf
    unfold kUpd
    rw [if_pos hn]
  rw [c113, b113_0, sp94' hb' hW, mm_psh_i, b113_7, mm_ite0]
  by_cases q1 : kIsRow (mB mi b) t k
  · rw [if_pos q1, b113_10]
    refine sp98 hb' hW ?_
    rw [mm_psh_i, b113_19, mm_wi (z := kCols (mB mi b) t - 1) (by omega) (by omega), sp91, mm_psh_i, b113_24, mm_ite0]
    by_cases q2 : 0 ≤ c ∧ c ≤ kCols (mB mi b) t - 1
    · have n2 : ¬ ¬ (kIsRow (mB mi b) t k ∧ 0 ≤ c ∧ c ≤ kCols (mB mi b) t - 1) := fun z => z ⟨q1, q2⟩
      have hx : 0 ≤ 100 * t + k ∧ 100 * t + k < 600 := by omega
      have hce : 0 ≤ kCe (mB mi b) (100 * t + k) ∧ kCe (mB mi b) (100 * t + k) ≤ 10200 := ⟨q1.2.2, (hW.2.2.2 _ hx.1 hx.2).2⟩
      rw [if_pos q2, b113_30, sp91, mm_psh_i, b113_38, mm_ite0]
      by_cases q3 : -1 ≤ v ∧ v ≤ 99
      · have n3 : ¬ ¬ (-1 ≤ v ∧ v ≤ 99) := fun z => z q3
        rw [if_pos q3, b113_44]
        have ok7 : ¬ (v = -1 ∧ kNeed (mB mi b) t c) → ¬ (v ≠ -1 ∧ ¬ kHasP (mB mi b) t c v) → mwp X 113 86 [some (.inr (some 69)), some (.inl b), some (.inl t), some (.inl k), some (.inl c), some (.inl v), none] [] (mm_ms0 mi h) Q := by
          intro n6 n7
          rw [b113_86, mm_wi (z := 100 * t) (by omega) (by omega), mm_wi (z := 100 * t + k) (by omega) (by omega), sp96 hb' hx hce, mm_psh_i, b113_99, mm_wi (z := 100 * t) (by omega) (by omega), mm_wi (z := 100 * t + k) (by omega) (by omega)]
          refine sp97 hb' hx (by omega) q3 hce ?_
          rw [mm_psh_n, b113_116, Int.add_assoc]
          have hF2 := (kFrB.rf (b := b) (mi := mi)).up2 (w := 198 + (100 * t + k)) (v := kLay (mB mi b) (100 * t + k) c v) (by omega) (by omega)
          have hB2 : mB (mm_up mi 70 (b + (198 + (100 * t + k))).toNat (kLay (mB mi b) (100 * t + k) c v)) b = bUp (mB mi b) (198 + (100 * t + k)) (kLay (mB mi b) (100 * t + k) c v) := mB_up (by omega) (by omega)
          by_cases q4 : kV (mB mi b) (100 * t + k) c = v
          · rw [if_pos q4, b113_123, b113_130]
            refine hq _ _ ?_ hF2
            unfold kUpd
            rw [if_neg n2, if_neg n3, if_neg n6, if_neg n7, hB2, if_pos q4]
          · rw [if_neg q4, b113_128, b113_130]
            refine hq _ _ ?_ hF2
            unfold kUpd
            rw [if_neg n2, if_neg n3, if_neg n6, if_neg n7, hB2, if_neg q4]
        have go6 : ¬ (v = -1 ∧ kNeed (mB mi b) t c) → mwp X 113 64 [some (.inr (some 69)), some (.inl b), some (.inl t), some (.inl k), some (.inl c), some (.inl v), none] [] (mm_ms0 mi h) Q := by
          intro n6
          rw [b113_64]
          by_cases q5 : v = -1
          · rw [if_pos q5]
            exact ok7 n6 (fun z => z.1 q5)
          · rw [if_neg q5, b113_70]
            refine sp110 hb' hW ?_
            rw [mm_psh_i, b113_80, mm_ite0]
            by_cases q6 : kHasP (mB mi b) t c v
            · rw [if_pos q6]
              exact ok7 n6 (fun z => z.2 q6)
            · rw [if_neg q6, b113_83]
              refine hq _ mi ?_ kFrB.rf
              unfold kUpd
              rw [if_neg n2, if_neg n3, if_neg n6, if_pos ⟨q5, q6⟩]
        by_cases q5 : v = -1
        · rw [if_pos q5, b113_50]
          refine sp111 hb' hW ?_
          rw [mm_psh_i, b113_58, mm_ite0]
          by_cases q6 : kNeed (mB mi b) t c
          · rw [if_pos q6, b113_61]
            refine hq _ mi ?_ kFrB.rf
            unfold kUpd
            rw [if_neg n2, if_neg n3, if_pos ⟨q5, q6⟩]
          · rw [if_neg q6]
            exact go6 (fun z => q6 z.2)
        · rw [if_neg q5]
          exact go6 (fun z => q5 z.1)
      · rw [if_neg q3, b113_41]
        refine hq _ mi ?_ kFrB.rf
        unfold kUpd
        rw [if_neg n2, if_pos q3]
    · rw [if_neg q2]
      exact no2 (fun z => q2 z.2)
  · rw [if_neg q1]
    exact no2 (fun z => q1 z.1)
end KP
