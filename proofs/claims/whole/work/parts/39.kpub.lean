-- THE REFERENCE: blocks copied, changes accepted
def kCp (mi : mm_M) (f t : Nat) : mm_M := fun a k => if a = 70 ∧ 798 * t ≤ k ∧ k < 798 * t + 798 then mi 70 (k - 798 * t + 798 * f) else mi a k
/-- one block's copy over another: what else stays -/
noncomputable def kBlk (mi : mm_M) (i : Nat) : Int → Int := mB mi ((798 * i : Nat) : Int)
theorem kCp_ne {mi : mm_M} {f t a : Nat} (ha : a ≠ 70) : kCp mi f t a = mi a := by
  funext k
  unfold kCp
  rw [if_neg (fun z => ha z.1)]
theorem kCp_at (mi : mm_M) (f t : Nat) : kBlk (kCp mi f t) t = kBlk mi f := by
  funext z
  unfold kBlk
  by_cases hz : 0 ≤ z ∧ z < 798
  · rw [mB_in _ hz, mB_in _ hz]
    unfold kCp
    rw [if_pos ⟨rfl, by omega, by omega⟩]
    congr 1
    omega
  · rw [mB_out _ hz, mB_out _ hz]
theorem kCp_off {mi : mm_M} {f t i : Nat} (h : i ≠ t) : kBlk (kCp mi f t) i = kBlk mi i := by
  unfold kBlk
  refine mB_off (fun k h1 h2 => ?_) (by omega)
  unfold kCp
  rw [if_neg (by omega)]
section KQ
variable {X : Nat × (Nat → Int)} {mi : mm_M} {h : mm_H} {Q : Option mm_V → mm_S → Prop} {b : Int}
theorem sp114 {f t : Nat} (hf : f < 7) (ht : t < 7) (hft : f ≠ t) (hq : Q none (mm_ms0 (kCp mi f t) h)) : mcl X 114 [.inr (some 69), .inl (f : Int), .inl (t : Int)] (mm_ms0 mi h) Q := by
  rw [c114, b114_0]
  refine mm_for (fun n => ∀ mi2 : mm_M, (∀ a k, mi2 a k = if a = 70 ∧ 798 * t ≤ k ∧ k < 798 * t + n then mi 70 (k - 798 * t + 798 * f) else mi a k) → mwp X 114 2 [some (.inr (some 69)), some (.inl (f : Int)), some (.inl (t : Int)), some (.inl (n : Int))] [] (mm_ms0 mi2 h) Q) 798 ?_ ?_ 0 (Nat.zero_le _) mi ?_
  · intro mi2 h2
    have e : mi2 = kCp mi f t := by funext a k; rw [h2]; rfl
    rw [b114_2, if_neg (by omega), b114_39, e]
    exact hq
  · intro n hn ih mi2 h2
    rw [b114_2, if_pos (by omega), b114_9]
    rw [mm_wi (z := 798 * (f : Int)) (by omega) (by omega), mm_wi (z := 798 * (f : Int) + n) (by omega) (by omega), mm_wi (z := 798 * (t : Int)) (by omega) (by omega), mm_wi (z := 798 * (t : Int) + n) (by omega) (by omega)]
    refine ⟨by omega, ?_⟩
    rw [b114_32]
    refine ⟨by omega, ?_⟩
    rw [b114_33, mm_wi (z := (n : Int) + 1) (by omega) (by omega)]
    refine ih _ ?_
    intro a k
    have e1 : mi2 70 (798 * (f : Int) + n).toNat = mi 70 (798 * f + n) := by
      rw [h2, if_neg (by omega)]
      exact congrArg (mi 70) (by omega)
    rw [e1]
    by_cases ha : a = 70
    · subst ha
      rw [mm_up_if]
      by_cases hk : k = (798 * (t : Int) + n).toNat
      · rw [if_pos hk, if_pos ⟨rfl, by omega, by omega⟩]
        congr 1
        omega
      · rw [if_neg hk, h2]
        by_cases hk2 : 798 * t ≤ k ∧ k < 798 * t + n
        · rw [if_pos ⟨rfl, hk2⟩, if_pos ⟨rfl, by omega, by omega⟩]
        · rw [if_neg (fun z => hk2 z.2), if_neg (by omega)]
    · rw [mm_up_ne ha, h2, if_neg (fun z => ha z.1), if_neg (fun z => ha z.1)]
  · intro a k
    rw [if_neg (by omega)]
/-- the history's blocks after a change -/
def kAccN (s : Int) : Int := if s < 4 then s + 1 else s
def kAcc (mi mi2 : mm_M) : Prop := (∀ a, a ≠ 69 → a ≠ 70 → mi2 a = mi a) ∧ (∀ k, k ≠ 1 → mi2 69 k = mi 69 k) ∧ mi2 69 1 = kAccN (mi 69 1) ∧ kBlk mi2 0 = kBlk mi 6 ∧ kBlk mi2 5 = kBlk mi 5 ∧
  kBlk mi2 (kAccN (mi 69 1)).toNat = kBlk mi 0 ∧ (mi 69 1 = 4 → ∀ i, 1 ≤ i → i < 4 → kBlk mi2 i = kBlk mi (i + 1)) ∧ (mi 69 1 < 4 → ∀ i : Nat, 1 ≤ i → (i : Int) ≤ mi 69 1 → kBlk mi2 i = kBlk mi i)
theorem sp115 {v : Int} (hs : 0 ≤ mi 69 1 ∧ mi 69 1 ≤ 4) (h0 : v < -1 → Q (some (.inl v)) (mm_ms0 mi h)) (h1 : -1 ≤ v → ∀ mi2, kAcc mi mi2 → Q (some (.inl v)) (mm_ms0 mi2 h)) : mcl X 115 [.inr (some 69), .inl v] (mm_ms0 mi h) Q := by
  rw [c115, b115_0]
  by_cases q1 : v < -1
  · rw [if_pos q1, b115_5]
    exact h0 q1
  · rw [if_neg q1, b115_7]
    -- after the shift
    have fin : ∀ (mi2 : mm_M) (i : Int), (∀ a, a ≠ 70 → mi2 a = mi a) → kBlk mi2 0 = kBlk mi 0 → kBlk mi2 5 = kBlk mi 5 → kBlk mi2 6 = kBlk mi 6 → (mi 69 1 = 4 → ∀ i, 1 ≤ i → i < 4 → kBlk mi2 i = kBlk mi (i + 1)) → (mi 69 1 < 4 → ∀ i : Nat, 1 ≤ i → (i : Int) ≤ mi 69 1 → kBlk mi2 i = kBlk mi i) → mwp X 115 36 [some (.inr (some 69)), some (.inl v), some (.inl i)] [] (mm_ms0 mi2 h) Q := by
      intro mi2 i e0 e1 e2 e3 e4 e5
      have e69 : mi2 69 1 = mi 69 1 := by rw [e0 69 (by decide)]
      have tail : ∀ u : Int, mi 69 1 + u = kAccN (mi 69 1) → mwp X 115 54 [some (.inr (some 69)), some (.inl v), some (.inl i)] [.inl u, .inl (mi 69 1), .inr (some 69)] (mm_ms0 mi2 h) Q := by
        intro u hu
        have hn1 : 1 ≤ kAccN (mi 69 1) ∧ kAccN (mi 69 1) ≤ 4 := by unfold kAccN; split <;> omega
        rw [b115_54, hu, mm_wi (z := kAccN (mi 69 1)) (by omega) (by omega)]
        have hc : ((kAccN (mi 69 1)).toNat : Int) = kAccN (mi 69 1) := by omega
        rw [← hc]
        refine sp114 (f := 0) (by omega) (by omega) (by omega) ?_
        rw [mm_psh_n, b115_67]
        refine sp114 (f := 6) (t := 0) (by omega) (by omega) (by omega) ?_
        rw [mm_psh_n, b115_74, hc]
        have blk : ∀ j, kBlk (mm_up mi2 69 1 (kAccN (mi 69 1))) j = kBlk mi2 j := fun j => mB_eq (mm_up_ne (by decide)) _
        refine h1 (by omega) _ ⟨fun a ha hb => ?_, fun k hk => ?_, ?_, ?_, ?_, ?_, fun hh j hj1 hj2 => ?_, fun hh j hj1 hj2 => ?_⟩
        · rw [kCp_ne hb, kCp_ne hb, mm_up_ne ha, e0 a hb]
        · rw [kCp_ne (by decide), kCp_ne (by decide), mm_up_at2 hk, e0 69 (by decide)]
        · rw [kCp_ne (by decide), kCp_ne (by decide), mm_up_at]
        · rw [kCp_at, kCp_off (by omega), blk, e3]
        · rw [kCp_off (by omega), kCp_off (by omega), blk, e2]
        · rw [kCp_off (by omega), kCp_at, blk, e1]
        · rw [kCp_off (by omega), kCp_off (by unfold kAccN; rw [if_neg (by omega)]; omega), blk, e4 hh j hj1 hj2]
        · rw [kCp_off (by omega), kCp_off (by unfold kAccN; rw [if_pos hh]; omega), blk, e5 hh j hj1 hj2]
      rw [b115_36, e69]
      by_cases q2 : mi 69 1 < 4
      · rw [if_pos q2, b115_49]
        exact tail 1 (by unfold kAccN; rw [if_pos q2])
      · rw [if_neg q2, b115_53]
        exact tail 0 (by unfold kAccN; rw [if_neg q2]; omega)
    by_cases q2 : mi 69 1 = 4
    · refine mm_for (fun n => ∀ mi2 : mm_M, 1 ≤ n → (∀ a, a ≠ 70 → mi2 a = mi a) → (∀ i, i < 7 → kBlk mi2 i = if 1 ≤ i ∧ i < n then kBlk mi (i + 1) else kBlk mi i) → mwp X 115 9 [some (.inr (some 69)), some (.inl v), some (.inl (n : Int))] [] (mm_ms0 mi2 h) Q) 4 ?_ ?_ 1 (by omega) mi (Nat.le_refl _) (fun _ _ => rfl) (fun i _ => by rw [if_neg (by omega)])
      · intro mi2 hn e0 e1
        rw [b115_9, if_neg (by omega)]
        refine fin mi2 _ e0 ?_ ?_ ?_ (fun _ i h1 h2 => ?_) (fun hh => by omega)
        · rw [e1 0 (by omega), if_neg (by omega)]
        · rw [e1 5 (by omega), if_neg (by omega)]
        · rw [e1 6 (by omega), if_neg (by omega)]
        · rw [e1 i (by omega), if_pos ⟨h1, h2⟩]
      · intro n hn ih mi2 hn1 e0 e1
        rw [b115_9, if_pos (by omega), b115_14, show mi2 69 1 = 4 by rw [e0 69 (by decide)]; exact q2, if_pos rfl, b115_22, mm_wi (z := (n : Int) + 1) (by omega) (by omega)]
        refine sp114 (f := n + 1) (t := n) (by omega) (by omega) (by omega) ?_
        rw [mm_psh_n, b115_30, mm_wi (z := (n : Int) + 1) (by omega) (by omega)]
        refine ih _ (by omega) (fun a ha => by rw [kCp_ne ha, e0 a ha]) (fun i hi => ?_)
        by_cases q3 : i = n
        · subst q3
          rw [kCp_at, e1 (i + 1) (by omega), if_neg (by omega), if_pos (by omega)]
        · rw [kCp_off q3, e1 i hi]
          by_cases q4 : 1 ≤ i ∧ i < n
          · rw [if_pos q4, if_pos (by omega)]
          · rw [if_neg q4, if_neg (by omega)]
    · rw [b115_9, if_pos (by omega), b115_14, if_neg q2]
      exact fin mi 1 (fun _ _ => rfl) rfl rfl rfl (fun hh => absurd hh q2) (fun _ _ _ _ => rfl)
end KQ
