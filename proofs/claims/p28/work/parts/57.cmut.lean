-- THE CLASS: changes of a State
theorem cS.co {mi mi2 : mm_M} {a : Nat} {B : Int → Int} (h : cS mi a B) (e : ∀ i, i < 8 → mi2 (a + i) = mi (a + i)) : cS mi2 a B := by
  have e0 : mi2 a = mi a := e 0 (by decide)
  have e1 : mi2 (a + 1) = mi (a + 1) := e 1 (by decide)
  have e2 : mi2 (a + 2) = mi (a + 2) := e 2 (by decide)
  have e3 : mi2 (a + 3) = mi (a + 3) := e 3 (by decide)
  have e4 : mi2 (a + 4) = mi (a + 4) := e 4 (by decide)
  have e5 : mi2 (a + 5) = mi (a + 5) := e 5 (by decide)
  have e6 : mi2 (a + 6) = mi (a + 6) := e 6 (by decide)
  have e7 : mi2 (a + 7) = mi (a + 7) := e 7 (by decide)
  unfold cS cHd cFa cCo cTb cRc cKy cVl at *
  rw [e0, e1, e2, e3, e4, e5, e6, e7]
  exact h
theorem cTb.co {mi mi2 : mm_M} {a : Nat} {B B2 : Int → Int} {t : Nat} (hT : cTb mi a B t) (e1 : cRc mi2 a t = cRc mi a t) (e2 : ∀ j, j < 20 → cKy mi2 a t j = cKy mi a t j) (e3 : ∀ j c, j < 20 → c < 2 → cVl mi2 a t j c = cVl mi a t j c) (e4 : ∀ k : Int, 0 ≤ k → k < 100 → kCe B2 (100 * t + k) = kCe B (100 * t + k)) (e5 : B 0 ≤ B2 0) : cTb mi2 a B2 t := by
  obtain ⟨hrc, hz, hrow, hso, hco⟩ := hT
  refine ⟨by rw [e1]; exact hrc, fun h => by rw [e1]; exact hz (by omega), fun j hj => ?_, fun i j hi hj => ?_, fun k hk hc => ?_⟩
  · rw [e1] at hj
    obtain ⟨r1, r2, r3, r4⟩ := hrow j hj
    rw [e2 j (by omega), e3 j 0 (by omega) (by decide), e3 j 1 (by omega) (by decide), e4 _ (by omega) (by omega)]
    exact ⟨r1, r2, r3, r4⟩
  · rw [e1] at hj
    rw [e2 j (by omega), e2 i (by omega)]
    exact hso i j hi hj
  · rw [e4 _ (by omega) (by omega)] at hc
    obtain ⟨j, h1, h2⟩ := hco k hk hc
    exact ⟨j, by rw [e1]; exact h1, by rw [e2 j (by omega)]; exact h2⟩
/-- rows alone have changed -/
theorem cS_mk {mi mi2 : mm_M} {B B2 : Int → Int} (hS : cS mi 1 B) (hI : bInv B2) (hh : cHd mi2 1 B2) (h1 : B2 1 = B 1) (hf : ∀ z, 5 ≤ z → z < 198 → B2 z = B z) (e3 : mi2 3 = mi 3) (e4 : mi2 4 = mi 4) (e5 : mi2 5 = mi 5) (e8 : mi2 8 = mi 8) (ht : ∀ t, t < 6 → cTb mi2 1 B2 t) : cS mi2 1 B2 := by
  have w1 := hS.1.1.2.1
  obtain ⟨-, -, ⟨f1, f2⟩, ⟨g1, g2⟩, -⟩ := hS
  have h5 := hI.2.2.2.2.2
  refine ⟨hI, hh, ⟨fun i hi => ?_, fun i hi => ?_⟩, ⟨fun t htt => ?_, fun r hr => ?_⟩, ht⟩
  · rw [h1] at hi
    show mi2 5 i = _
    rw [e5, hf _ (by omega) (by omega)]
    exact f1 i hi
  · show mi2 8 i = _
    rw [e8, hf _ (by omega) (by omega)]
    exact f2 i (by rw [hf 5 (by omega) (by omega)] at hi; exact hi)
  · show mi2 3 t = _
    rw [e3]
    have : kCols B2 t = kCols B t := by
      unfold kCols
      rw [h1]
      exact cnt_co fun e he => by rw [show kOf B2 e 0 = kOf B e 0 from hf _ (by omega) (by omega)]
    rw [this]
    exact g1 t htt
  · rw [h1] at hr
    show mi2 4 _ = _
    rw [e4, show kOf B2 r 0 = kOf B r 0 from hf _ (by omega) (by omega), show kOf B2 r 2 = kOf B r 2 from hf _ (by omega) (by omega)]
    exact g2 r hr
/-- nothing but the State now -/
def cF1 (mi mi2 : mm_M) : Prop := ∀ a, ¬ (1 ≤ a ∧ a ≤ 8) → mi2 a = mi a
theorem cF1.rf {mi : mm_M} : cF1 mi mi := fun _ _ => rfl
theorem cF1.up {m1 m2 : mm_M} {a k : Nat} {v : Int} (h : cF1 m1 m2) (ha : 1 ≤ a ∧ a ≤ 8) : cF1 m1 (mm_up m2 a k v) := fun b hb => by
  rw [mm_up_ne (by omega)]
  exact h b hb
theorem cF1.tr {m1 m2 m3 : mm_M} (h1 : cF1 m1 m2) (h2 : cF1 m2 m3) : cF1 m1 m3 := fun a ha => (h2 a ha).trans (h1 a ha)
section CM
variable {X : Nat × (Nat → Int)} {mi : mm_M} {h : mm_H} {Q : Option mm_V → mm_S → Prop} {B : Int → Int}
theorem sp48 (hS : cS mi 1 B) (h6 : B 0 < 6) (hq : ∀ mi2, cS mi2 1 (bUp B 0 (B 0 + 1)) → cF1 mi mi2 → Q (some (.inl (B 0))) (mm_ms0 mi2 h)) : mcl X 48 [.inr (some 1)] (mm_ms0 mi h) Q := by
  have w0 := hS.1.1.1
  have w1 := hS.1.1.2.1
  rw [c48, b48_0, hS.2.1.1, mm_wi (z := B 0 + 1) (by omega) (by omega), mm_wi (z := B 0 + 1 - 1) (by omega) (by omega), show B 0 + 1 - 1 = B 0 by omega]
  refine hq _ ?_ (cF1.rf.up (by omega))
  have hI := hS.1.tab h6
  have h5 := hS.1.2.2.2.2.2
  obtain ⟨-, ⟨d0, d1, d2, d3, d4, d5⟩, ⟨f1, f2⟩, ⟨g1, g2⟩, ht⟩ := hS
  have ne : ∀ z, z ≠ 0 → bUp B 0 (B 0 + 1) z = B z := fun z hz => bUp_ne hz
  refine ⟨hI, ⟨?_, ?_, ?_, ?_, ?_, ?_⟩, ⟨fun i hi => ?_, fun i hi => ?_⟩, ⟨fun t htt => ?_, fun r hr => ?_⟩, fun t htt => ?_⟩
  · rw [mm_up_at, bUp_at]
  · rw [mm_up_at2 (by decide), ne 1 (by decide)]; exact d1
  · rw [mm_up_at2 (by decide), ne 5 (by decide)]; exact d2
  · rw [mm_up_at2 (by decide), ne 2 (by decide)]; exact d3
  · rw [mm_up_at2 (by decide), ne 3 (by decide)]; exact d4
  · rw [mm_up_at2 (by decide), ne 4 (by decide)]; exact d5
  · rw [ne 1 (by decide)] at hi
    rw [mm_up_ne (by decide), ne _ (by omega)]; exact f1 i hi
  · rw [ne 5 (by decide)] at hi
    rw [mm_up_ne (by decide), ne _ (by omega)]; exact f2 i hi
  · rw [mm_up_ne (by decide)]
    have : kCols (bUp B 0 (B 0 + 1)) t = kCols B t := by
      unfold kCols
      rw [ne 1 (by decide)]
      exact cnt_co fun e he => by rw [show kOf (bUp B 0 (B 0 + 1)) e 0 = kOf B e 0 from ne _ (by omega)]
    rw [this]; exact g1 t htt
  · rw [ne 1 (by decide)] at hr
    rw [mm_up_ne (by decide), show kOf (bUp B 0 (B 0 + 1)) r 0 = kOf B r 0 from ne _ (by omega), show kOf (bUp B 0 (B 0 + 1)) r 2 = kOf B r 2 from ne _ (by omega)]
    exact g2 r hr
  · refine (ht t htt).co ?_ (fun j hj => ?_) (fun j c hj hc => ?_) (fun k hk hk2 => ne _ (by omega)) (by rw [bUp_at]; omega)
    · show mm_up _ _ _ _ 2 t = mi 2 t; rw [mm_up_ne (by decide)]
    · show mm_up _ _ _ _ 6 _ = mi 6 _; rw [mm_up_ne (by decide)]
    · show mm_up _ _ _ _ 7 _ = mi 7 _; rw [mm_up_ne (by decide)]
/-- the rule of a reference, laid in the class's facts -/
theorem cRule (hS : cS mi 1 B) {r v : Int} (hr : 0 ≤ r ∧ r < B 1) (hv : 0 ≤ v ∧ v ≤ 4) : cS (mm_up mi 5 (r * 6 + 3).toNat v) 1 (bUp B (6 + 6 * r + 3) v) := by
  have w0 := hS.1.1.1
  have w1 := hS.1.1.2.1
  have hI := hS.1.rule hr hv
  have h5 := hS.1.2.2.2.2.2
  obtain ⟨-, ⟨d0, d1, d2, d3, d4, d5⟩, ⟨f1, f2⟩, ⟨g1, g2⟩, ht⟩ := hS
  have of : ∀ (s w : Int), 0 ≤ w → w < 6 → w ≠ 3 → kOf (bUp B (6 + 6 * r + 3) v) s w = kOf B s w := fun s w a b c => bUp_ne (by omega)
  have lo : ∀ z, z < 6 → bUp B (6 + 6 * r + 3) v z = B z := fun z hz => bUp_ne (by omega)
  have hi' : ∀ z, 78 ≤ z → bUp B (6 + 6 * r + 3) v z = B z := fun z hz => bUp_ne (by omega)
  refine ⟨hI, ⟨?_, ?_, ?_, ?_, ?_, ?_⟩, ⟨fun i hi => ?_, fun i hi => ?_⟩, ⟨fun t htt => ?_, fun s hs => ?_⟩, fun t htt => ?_⟩
  · rw [mm_up_ne (by decide), lo 0 (by decide)]; exact d0
  · rw [mm_up_ne (by decide), lo 1 (by decide)]; exact d1
  · rw [mm_up_ne (by decide), lo 5 (by decide)]; exact d2
  · rw [mm_up_ne (by decide), lo 2 (by decide)]; exact d3
  · rw [mm_up_ne (by decide), lo 3 (by decide)]; exact d4
  · rw [mm_up_ne (by decide), lo 4 (by decide)]; exact d5
  · rw [lo 1 (by decide)] at hi
    show mm_up mi 5 _ v 5 i = _
    rw [mm_up_if]
    unfold bUp
    by_cases e : i = (r * 6 + 3).toNat
    · rw [if_pos e, if_pos (by omega)]
    · rw [if_neg e, if_neg (by omega)]; exact f1 i hi
  · rw [lo 5 (by decide)] at hi
    rw [mm_up_ne (by decide), hi' _ (by omega)]; exact f2 i hi
  · rw [mm_up_ne (by decide)]
    have : kCols (bUp B (6 + 6 * r + 3) v) t = kCols B t := by
      unfold kCols
      rw [lo 1 (by decide)]
      exact cnt_co fun e he => by rw [of e 0 (by decide) (by decide) (by decide)]
    rw [this]; exact g1 t htt
  · rw [lo 1 (by decide)] at hs
    rw [mm_up_ne (by decide), of s 0 (by decide) (by decide) (by decide), of s 2 (by decide) (by decide) (by decide)]
    exact g2 s hs
  · refine (ht t htt).co ?_ (fun j hj => ?_) (fun j c hj hc => ?_) (fun k hk hk2 => hi' _ (by omega)) (by rw [lo 0 (by decide)]; exact Int.le_refl _)
    · show mm_up _ _ _ _ 2 t = mi 2 t; rw [mm_up_ne (by decide)]
    · show mm_up _ _ _ _ 6 _ = mi 6 _; rw [mm_up_ne (by decide)]
    · show mm_up _ _ _ _ 7 _ = mi 7 _; rw [mm_up_ne (by decide)]
theorem sp49 (hS : cS mi 1 B) {c p rule q d : Int} (hc : 0 ≤ c ∧ c < B 0) (hp : 0 ≤ p ∧ p < B 0) (hru : 0 ≤ rule ∧ rule ≤ 4) (hd : -1 ≤ d ∧ d ≤ 99) (hm : B 1 < 12) (hcm : kCols B c < 2) (hq : ∀ mi2, cS mi2 1 (kAddRB B c p rule q d) → cF1 mi mi2 → Q (some (.inl (B 1))) (mm_ms0 mi2 h)) : mcl X 49 [.inr (some 1), .inl c, .inl p, .inl rule, .inl q, .inl d] (mm_ms0 mi h) Q := by
  have w0 := hS.1.1.1
  have w1 := hS.1.1.2.1
  have hI := hS.1.ref (q := q) hc hp hru hd hm hcm
  have h5 := hS.1.2.2.2.2.2
  have huu := hS.1.2.2.2.1.2
  have hcc := cCol hS (t := c) (by omega)
  have hkc : 0 ≤ kCols B c := cnt_nn _ _
  obtain ⟨-, ⟨d0, d1, d2, d3, d4, d5⟩, ⟨f1, f2⟩, ⟨g1, g2⟩, ht⟩ := hS
  obtain ⟨a1, a2, a3, a4, a5, a6, a7⟩ := kAddRB_at (B := B) (c := c) (p := p) (rule := rule) (q := q) (d := d) w1.1
  have cols := kAddRB_cols (B := B) (c := c) (p := p) (rule := rule) (q := q) (d := d) w1.1
  rw [c49, b49_0, mm_andT (by omega), b49_6, hcc, d1, mm_wi (z := B 1 * 6) (by omega) (by omega), mm_wi (z := B 1 * 6 + 0) (by omega) (by omega), mm_andT (by omega), b49_27, mm_wi (z := B 1 * 6 + 1) (by omega) (by omega), mm_andT (by omega), b49_37, mm_wi (z := B 1 * 6 + 2) (by omega) (by omega), mm_andT (by omega), b49_48, mm_wi (z := B 1 * 6 + 3) (by omega) (by omega), mm_andT (by omega), b49_58]
  have go : ∀ u : Int, u = (if q = 0 then 0 else 1) → mwp X 49 76 [some (.inr (some 1)), some (.inl c), some (.inl p), some (.inl rule), some (.inl q), some (.inl d), some (.inl (kCols B c)), some (.inl (B 1 * 6))] [.inl u, .inl (B 1 * 6 + 4), .inr (some 5)] (mm_ms0 (mm_up (mm_up (mm_up (mm_up mi 5 (B 1 * 6 + 0).toNat c) 5 (B 1 * 6 + 1).toNat p) 5 (B 1 * 6 + 2).toNat (kCols B c)) 5 (B 1 * 6 + 3).toNat rule) h) Q := by
    intro u hu
    rw [b49_76, mm_andT (by omega), b49_77, mm_wi (z := B 1 * 6 + 5) (by omega) (by omega), mm_andT (by omega), b49_88]
    have e5 : ∀ i : Nat, (i : Int) < 6 * (B 1 + 1) → (mm_up (mm_up (mm_up (mm_up (mm_up (mm_up mi 5 (B 1 * 6 + 0).toNat c) 5 (B 1 * 6 + 1).toNat p) 5 (B 1 * 6 + 2).toNat (kCols B c)) 5 (B 1 * 6 + 3).toNat rule) 5 (B 1 * 6 + 4).toNat u) 5 (B 1 * 6 + 5).toNat d) 5 i = kAddRB B c p rule q d (6 + i) := by
      intro i hi
      rw [mm_up_if, mm_up_if, mm_up_if, mm_up_if, mm_up_if, mm_up_if]
      by_cases o : (i : Int) < 6 * B 1
      · rw [if_neg (by omega), if_neg (by omega), if_neg (by omega), if_neg (by omega), if_neg (by omega), if_neg (by omega), kAddRB_ne (by omega) (by omega)]
        exact f1 i o
      · by_cases k5 : (i : Int) = B 1 * 6 + 5
        · rw [if_pos (by omega), show (6 : Int) + i = 6 + 6 * B 1 + 5 by omega]; exact a7.symm
        · rw [if_neg (by omega)]
          by_cases k4 : (i : Int) = B 1 * 6 + 4
          · rw [if_pos (by omega), show (6 : Int) + i = 6 + 6 * B 1 + 4 by omega, hu]; exact a6.symm
          · rw [if_neg (by omega)]
            by_cases k3 : (i : Int) = B 1 * 6 + 3
            · rw [if_pos (by omega), show (6 : Int) + i = 6 + 6 * B 1 + 3 by omega]; exact a5.symm
            · rw [if_neg (by omega)]
              by_cases k2 : (i : Int) = B 1 * 6 + 2
              · rw [if_pos (by omega), show (6 : Int) + i = 6 + 6 * B 1 + 2 by omega]; exact a4.symm
              · rw [if_neg (by omega)]
                by_cases k1 : (i : Int) = B 1 * 6 + 1
                · rw [if_pos (by omega), show (6 : Int) + i = 6 + 6 * B 1 + 1 by omega]; exact a3.symm
                · rw [if_neg (by omega), if_pos (by omega), show (6 : Int) + i = 6 + 6 * B 1 + 0 by omega]; exact a2.symm
    have en : ∀ a, a ≠ 5 → (mm_up (mm_up (mm_up (mm_up (mm_up (mm_up mi 5 (B 1 * 6 + 0).toNat c) 5 (B 1 * 6 + 1).toNat p) 5 (B 1 * 6 + 2).toNat (kCols B c)) 5 (B 1 * 6 + 3).toNat rule) 5 (B 1 * 6 + 4).toNat u) 5 (B 1 * 6 + 5).toNat d) a = mi a := by
      intro a ha
      rw [mm_up_ne ha, mm_up_ne ha, mm_up_ne ha, mm_up_ne ha, mm_up_ne ha, mm_up_ne ha]
    generalize mm_up (mm_up (mm_up (mm_up (mm_up (mm_up mi 5 (B 1 * 6 + 0).toNat c) 5 (B 1 * 6 + 1).toNat p) 5 (B 1 * 6 + 2).toNat (kCols B c)) 5 (B 1 * 6 + 3).toNat rule) 5 (B 1 * 6 + 4).toNat u) 5 (B 1 * 6 + 5).toNat d = m1 at e5 en ⊢
    rw [en 1 (by decide), d1, mm_wi (z := c * 2) (by omega) (by omega), mm_wi (z := c * 2 + kCols B c) (by omega) (by omega), mm_andT (by omega), b49_103, mm_andT (by omega), b49_110, mm_andT (by omega), b49_113]
    rw [mm_up_ne (a := 4) (b := 3) (by decide), en 3 (by decide), hcc, mm_wi (z := kCols B c + 1) (by omega) (by omega)]
    have x1 : (mm_up (mm_up m1 4 (c * 2 + kCols B c).toNat (B 1)) 3 c.toNat (kCols B c + 1)) 1 1 = B 1 := by
      rw [mm_up_ne (by decide), mm_up_ne (by decide), en 1 (by decide)]; exact d1
    rw [x1, mm_wi (z := B 1 + 1) (by omega) (by omega), mm_wi (z := B 1 + 1 - 1) (by omega) (by omega), show B 1 + 1 - 1 = B 1 by omega]
    refine hq _ ?_ ?_
    · refine ⟨hI, ⟨?_, ?_, ?_, ?_, ?_, ?_⟩, ⟨fun i hi => ?_, fun i hi => ?_⟩, ⟨fun t htt => ?_, fun s hs => ?_⟩, fun t htt => ?_⟩
      · rw [mm_up_at2 (by decide), mm_up_ne (by decide), mm_up_ne (by decide), en 1 (by decide), kAddRB_ne (by omega) (by omega)]; exact d0
      · rw [mm_up_at, a1]
      · rw [mm_up_at2 (by decide), mm_up_ne (by decide), mm_up_ne (by decide), en 1 (by decide), kAddRB_ne (by omega) (by omega)]; exact d2
      · rw [mm_up_at2 (by decide), mm_up_ne (by decide), mm_up_ne (by decide), en 1 (by decide), kAddRB_ne (by omega) (by omega)]; exact d3
      · rw [mm_up_at2 (by decide), mm_up_ne (by decide), mm_up_ne (by decide), en 1 (by decide), kAddRB_ne (by omega) (by omega)]; exact d4
      · rw [mm_up_at2 (by decide), mm_up_ne (by decide), mm_up_ne (by decide), en 1 (by decide), kAddRB_ne (by omega) (by omega)]; exact d5
      · rw [a1] at hi
        rw [mm_up_ne (by decide), mm_up_ne (by decide), mm_up_ne (by decide)]
        exact e5 i hi
      · rw [kAddRB_ne (by omega) (by omega)] at hi
        rw [mm_up_ne (by decide), mm_up_ne (by decide), mm_up_ne (by decide), en 8 (by decide), kAddRB_ne (by omega) (by omega)]
        exact f2 i hi
      · rw [mm_up_ne (by decide)]
        show mm_up _ 3 _ _ 3 t = _
        rw [mm_up_if, cols]
        by_cases e : c = t
        · rw [if_pos (by omega), if_pos e, e]
        · rw [if_neg (by omega), if_neg e, mm_up_ne (by decide), en 3 (by decide), Int.add_zero]; exact g1 t htt
      · rw [a1] at hs
        rw [mm_up_ne (by decide), mm_up_ne (by decide)]
        show mm_up _ 4 _ _ 4 _ = _
        rw [mm_up_if]
        by_cases e : (s : Int) = B 1
        · rw [e, a2, a4, if_pos (by omega)]
        · have o0 : kOf (kAddRB B c p rule q d) s 0 = kOf B s 0 := kAddRB_ne (by omega) (by omega)
          have o2 : kOf (kAddRB B c p rule q d) s 2 = kOf B s 2 := kAddRB_ne (by omega) (by omega)
          have hu2 := huu s (by omega)
          rw [o0, o2]
          have : ¬ (2 * kOf B s 0 + kOf B s 2).toNat = (c * 2 + kCols B c).toNat := by
            intro z
            have hks := hI.1.2.2.1 s (by omega) (by rw [a1]; omega)
            have z0 := hks.1
            have z2 := hks.2.2.1
            rw [o0] at z0
            rw [o2] at z2
            have : kOf B s 0 = c := by omega
            rw [this] at hu2
            omega
          rw [if_neg this, en 4 (by decide)]
          exact g2 s (by omega)
      · refine (ht t htt).co ?_ (fun j hj => ?_) (fun j c hj hc => ?_) (fun k hk hk2 => kAddRB_ne (by omega) (by omega)) (by rw [kAddRB_ne (by omega) (by omega)]; exact Int.le_refl _)
        · show mm_up _ _ _ _ 2 t = mi 2 t; rw [mm_up_ne (by decide), mm_up_ne (by decide), mm_up_ne (by decide), en 2 (by decide)]
        · show mm_up _ _ _ _ 6 _ = mi 6 _; rw [mm_up_ne (by decide), mm_up_ne (by decide), mm_up_ne (by decide), en 6 (by decide)]
        · show mm_up _ _ _ _ 7 _ = mi 7 _; rw [mm_up_ne (by decide), mm_up_ne (by decide), mm_up_ne (by decide), en 7 (by decide)]
    · intro a ha
      rw [mm_up_ne (by omega), mm_up_ne (by omega), mm_up_ne (by omega), en a (by omega)]
  by_cases e : q = 0
  · rw [if_pos e, b49_75, mm_wi (z := B 1 * 6 + 4) (by omega) (by omega)]
    exact go 0 (by rw [if_pos e])
  · rw [if_neg e, b49_71, mm_wi (z := B 1 * 6 + 4) (by omega) (by omega)]
    exact go 1 (by rw [if_neg e])
end CM
