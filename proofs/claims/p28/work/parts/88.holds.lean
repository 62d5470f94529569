-- THE LAW's method holds: what always holds makes it true
section LH
variable {X : Nat × (Nat → Int)} {mi : mm_M} {h : mm_H} {Q : Option mm_V → mm_S → Prop} {B : Int → Int}
theorem kTotC_2 {a b : Int} : kTotC B a b 2 = kAll B := rfl
theorem kTotC_3 {a b : Int} : kTotC B a b 3 = kNulls B := rfl
theorem kTotC_4 {a b : Int} : kTotC B a b 4 = B 2 := rfl
theorem kTotC_5 {a b : Int} : kTotC B a b 5 = B 3 := rfl
theorem kTotC_6 {a b : Int} : kTotC B a b 6 = B 4 := rfl
theorem kTotC_7 {a b : Int} : kTotC B a b 7 = a := rfl
theorem kGiveDe_in {t : Int} (ht : 0 ≤ t ∧ t < B 0) : 0 ≤ kGiveDe B t ∧ kGiveDe B t ≤ kRows B t := by
  unfold kGiveDe
  rw [if_neg (fun z => z ht)]
  refine ⟨cnt_nn _ _, cnt_imp 100 (fun k hk hf => decide_eq_true ?_)⟩
  refine Classical.byContradiction (fun z => ?_)
  rw [kFreeB_n (fun y : kFree B t k => z y.1.2.2)] at hf
  cases hf
abbrev hN (B : Int → Int) (e : Nat) : Bool := decide (gRow B e ∧ gVal B e = -1)
abbrev hRw (B : Int → Int) (r k : Nat) : Bool := decide (0 ≤ kCe B (100 * kOf B r 0 + k))
abbrev hVl (B : Int → Int) (r k : Nat) : Int := kV B (100 * kOf B r 0 + k) (kOf B r 2)
abbrev hNu (B : Int → Int) (r k : Nat) : Bool := hRw B r k && decide (hVl B r k = -1)
abbrev hVa (B : Int → Int) (r k : Nat) : Bool := hRw B r k && decide (hVl B r k ≠ -1)
abbrev hCh (B : Int → Int) (r k : Nat) : Int := cnt 100 (fun j => hRw B r j && decide (hVl B r j = k))
theorem gVal_at {r k : Nat} (hk : k < 100) : gVal B (100 * r + k) = hVl B r k := by
  show kV B (gCh B (100 * r + k)) (kOf B (((100 * r + k) / 100 : Nat) : Int) 2) = _
  rw [gCh_at hk, show (100 * r + k) / 100 = r by omega]
theorem gRow_at {r k : Nat} (hk : k < 100) : gRow B (100 * r + k) ↔ 0 ≤ kCe B (100 * kOf B r 0 + k) := by
  show 0 ≤ kCe B (gCh B (100 * r + k)) ↔ _
  rw [gCh_at hk]
theorem hN_succ (r : Nat) : cnt (100 * (r + 1)) (hN B) = cnt (100 * r) (hN B) + cnt 100 (hNu B r) := by
  rw [show 100 * (r + 1) = 100 * r + 100 by omega, cnt_add]
  congr 1
  refine cnt_co (fun k hk => ?_)
  show decide (gRow B (100 * r + k) ∧ gVal B (100 * r + k) = -1) = (decide _ && decide _)
  rw [gVal_at hk, ← Bool.decide_and]
  congr 1
  rw [gRow_at hk]
theorem bAnd_t {a b : Bool} : (a && b) = true ↔ a = true ∧ b = true := Bool.and_eq_true a b ▸ Iff.rfl
set_option maxHeartbeats 8000000 in
theorem sp159 (hS : cS mi 1 B) (hF : bFk B) (hG : lG B) (hq : ∀ m, cFD mi m → Q (some (.inl 1)) (mm_ms0 m h)) : mcl X 159 [.inr (some 0)] (mm_ms0 mi h) Q := by
  have w0 := hS.1.1.1
  have w1 := hS.1.1.2.1
  have hI := hS.1
  -- the end
  have fin : ∀ (m : mm_M), cFD mi m → ∀ (l4 : Int) (o5 o6 o7 o8 o9 o10 o11 : Option mm_V), mwp X 159 383 [some (.inr (some 0)), some (.inl (kAll B)), some (.inl (kNulls B)), some (.inl 1), some (.inl l4), o5, o6, o7, o8, o9, o10, o11] [] (mm_ms0 m h) Q := by
    intro m hm l4 o5 o6 o7 o8 o9 o10 o11
    have hS2 := hm.S hS
    rw [b159_383, if_neg (by decide), b159_387]
    refine sp78 hS2 ?_
    rw [kTotC_2, mm_psh_i, b159_393, if_pos rfl, b159_396]
    refine sp78 hS2 ?_
    rw [kTotC_3, mm_psh_i, b159_402, if_pos rfl, b159_405]
    refine sp78 hS2 ?_
    rw [kTotC_2, mm_psh_i, b159_410]
    refine sp78 hS2 ?_
    rw [kTotC_4, mm_psh_i, b159_415]
    refine sp78 hS2 ?_
    have hc : kAll B = mm_w (B 2 - B 3) := hG.2.1
    rw [kTotC_5, mm_psh_i, b159_420, if_pos hc, b159_424, b159_429]
    exact ⟨Or.inr rfl, hq m hm⟩
  -- the references
  have refs : ∀ (m : mm_M), cFD mi m → ∀ r : Nat, r ≤ (B 1).toNat → ∀ (o5 o6 o7 o8 o9 o10 o11 : Option mm_V), mwp X 159 155 [some (.inr (some 0)), some (.inl (kAll B)), some (.inl (cnt (100 * r) (hN B))), some (.inl 1), some (.inl (r : Int)), o5, o6, o7, o8, o9, o10, o11] [] (mm_ms0 m h) Q := by
    intro m hm
    have hS2 := hm.S hS
    refine mm_for (fun r => ∀ (o5 o6 o7 o8 o9 o10 o11 : Option mm_V), mwp X 159 155 [some (.inr (some 0)), some (.inl (kAll B)), some (.inl (cnt (100 * r) (hN B))), some (.inl 1), some (.inl (r : Int)), o5, o6, o7, o8, o9, o10, o11] [] (mm_ms0 m h) Q) (B 1).toNat ?_ ?_
    · intro o5 o6 o7 o8 o9 o10 o11
      rw [b159_155]
      refine sp78 hS2 ?_
      rw [kTotC_1, mm_psh_i, b159_162, if_neg (by omega)]
      exact fin m hm _ _ _ _ _ _ _ _
    · intro r hr ih o5 o6 o7 o8 o9 o10 o11
      have hk := hI.1.2.2.1 r (by omega) (by omega)
      have hk0 := hk.1
      have hk1 := hk.2.1
      have hk2 := hk.2.2.1
      have hk4 := hk.2.2.2.2.1
      obtain ⟨cn, ec⟩ : ∃ cn : Nat, kOf B r 0 = cn := ⟨(kOf B r 0).toNat, by omega⟩
      obtain ⟨pn, ep⟩ : ∃ pn : Nat, kOf B r 1 = pn := ⟨(kOf B r 1).toNat, by omega⟩
      have hTc := hS2.2.2.2.2 cn (by omega)
      have hTp := hS2.2.2.2.2 pn (by omega)
      have rwc := hTc.rows
      have rwp := hTp.rows
      have rc20 := hTc.1
      have rp20 := hTp.1
      have hcol : kOf B r 2 < kCols B (kOf B r 0) := hI.2.2.2.1.2 r (by omega)
      have hgr : (gR B : Int) = 100 * B 1 := by unfold gR; omega
      have cN1 := cnt_nn (100 * r) (hN B)
      have cN2 := cnt_le (100 * r) (hN B)
      have nuz : ∀ k : Nat, k < 100 → kCe B (100 * cn + k) < 0 → hNu B r k = false := fun k _ hc => by
        rw [← ec] at hc
        show (decide _ && _) = false
        rw [decide_eq_false (by omega)]
        rfl
      have vaz : ∀ k : Nat, k < 100 → kCe B (100 * cn + k) < 0 → hVa B r k = false := fun k _ hc => by
        rw [← ec] at hc
        show (decide _ && _) = false
        rw [decide_eq_false (by omega)]
        rfl
      -- a child's value
      have val : ∀ k : Nat, k < 100 → 0 ≤ kCe B (100 * kOf B r 0 + k) → (-1 ≤ hVl B r k ∧ hVl B r k ≤ 99) ∧ (hVl B r k ≠ -1 → kIsRow B (kOf B r 1) (hVl B r k)) ∧ (hVl B r k = -1 → kOf B r 4 = 0) := by
        intro k hk hc
        have he : 100 * r + k < gR B := by omega
        obtain ⟨g1, g2, g3, g4, g5, g6, g7, g8⟩ := g_at hI.1 he
        have row : gRow B (100 * r + k) := (gRow_at hk).mpr hc
        have hv := (g6 row).1
        have e0 : gPar B (100 * r + k) = 100 * kOf B r 1 + hVl B r k := by
          show 100 * kOf B (((100 * r + k) / 100 : Nat) : Int) 1 + gVal B (100 * r + k) = _
          rw [gVal_at hk, show (100 * r + k) / 100 = r by omega]
        rw [gVal_at hk] at hv
        refine ⟨hv, fun z => ?_, fun z => ?_⟩
        · have := hF _ he row (by rw [gVal_at hk]; exact z)
          rw [e0] at this
          exact ⟨⟨by omega, by omega⟩, by omega, this⟩
        · refine Classical.byContradiction (fun y => ?_)
          refine hG.1 _ he row ?_ (by rw [gVal_at hk]; exact z)
          rw [show (100 * r + k) / 100 = r by omega]
          omega
      have chz : ∀ k : Nat, k < 100 → kCe B (100 * pn + k) < 0 → hCh B r k = 0 := fun k hk hc => by
        refine (cnt_co (q := fun _ => false) (fun j hj => ?_)).trans ?_
        · show (decide _ && decide _) = false
          by_cases z : 0 ≤ kCe B (100 * kOf B r 0 + j)
          · rw [decide_eq_false (fun y : hVl B r j = k => ?_), Bool.and_false]
            have := (val j hj z).2.1 (by omega)
            rw [y] at this
            have := this.2.2
            rw [ep] at this
            omega
          · rw [decide_eq_false z, Bool.false_and]
        · unfold cnt
          simp
      have twice : sumN (hCh B r) 100 = cnt 100 (hVa B r) := by
        rw [show sumN (hCh B r) 100 = _ from cnt_twice (hRw B r) (hVl B r) 100 100]
        refine cnt_co (fun k hk => ?_)
        show (decide _ && decide _) = (decide _ && decide _)
        by_cases z : 0 ≤ kCe B (100 * kOf B r 0 + k)
        · have := (val k hk z).1
          congr 1
          rw [decide_eq_decide]
          omega
        · rw [decide_eq_false z, Bool.false_and, Bool.false_and]
      rw [b159_155]
      refine sp78 hS2 ?_
      rw [kTotC_1, mm_psh_i, b159_162, if_pos (by omega), b159_165, if_neg (by decide), b159_169]
      refine sp76 hS2 ?_
      rw [kGiveF_in (by omega) (by decide), mm_psh_i, b159_176]
      refine sp76 hS2 ?_
      rw [kGiveF_in (by omega) (by decide), mm_psh_i, b159_185]
      refine sp76 hS2 ?_
      rw [kGiveF_in (by omega) (by decide), mm_psh_i, b159_194]
      -- the parents' children
      have par : ∀ j : Nat, j ≤ (kRows B (kOf B r 1)).toNat → ∀ (o11 : Option mm_V), mwp X 159 313 [some (.inr (some 0)), some (.inl (kAll B)), some (.inl (cnt (100 * (r + 1)) (hN B))), some (.inl 1), some (.inl (r : Int)), some (.inl (kOf B r 0)), some (.inl (kOf B r 1)), some (.inl (kOf B r 2)), some (.inl (sumN (hCh B r) (cAt m 1 pn j))), some (.inl (cnt 100 (hVa B r))), some (.inl (j : Int)), o11] [] (mm_ms0 m h) Q := by
        have sb : ∀ n, 0 ≤ sumN (hCh B r) n ∧ sumN (hCh B r) n ≤ 100 * n := by
          intro n
          induction n with
          | zero => exact ⟨Int.le_refl _, Int.le_refl _⟩
          | succ n ih =>
            have a1 := cnt_nn 100 (fun j => hRw B r j && decide (hVl B r j = n))
            have a2 := cnt_le 100 (fun j => hRw B r j && decide (hVl B r j = n))
            show 0 ≤ sumN (hCh B r) n + hCh B r n ∧ sumN (hCh B r) n + hCh B r n ≤ _
            show 0 ≤ sumN (hCh B r) n + cnt 100 (fun j => hRw B r j && decide (hVl B r j = n)) ∧ sumN (hCh B r) n + cnt 100 (fun j => hRw B r j && decide (hVl B r j = n)) ≤ _
            omega
        refine mm_for (fun j => ∀ (o11 : Option mm_V), mwp X 159 313 [some (.inr (some 0)), some (.inl (kAll B)), some (.inl (cnt (100 * (r + 1)) (hN B))), some (.inl 1), some (.inl (r : Int)), some (.inl (kOf B r 0)), some (.inl (kOf B r 1)), some (.inl (kOf B r 2)), some (.inl (sumN (hCh B r) (cAt m 1 pn j))), some (.inl (cnt 100 (hVa B r))), some (.inl (j : Int)), o11] [] (mm_ms0 m h) Q) (kRows B (kOf B r 1)).toNat ?_ ?_
        · intro o11
          have e : sumN (hCh B r) (cAt m 1 pn (kRows B (kOf B r 1)).toNat) = cnt 100 (hVa B r) := by
            rw [ep, rwp, hTp.sfin chz, twice]
          rw [b159_313]
          refine sp72 hS2 ?_
          rw [kGiveR_in hk1, mm_psh_i, b159_321, if_neg (by omega), e, b159_349, if_neg (by decide), b159_353, if_pos rfl, b159_360, if_neg (by omega), b159_365, if_pos (by omega), b159_371, b159_376, mm_wi (by omega) (by omega)]
          exact ih _ _ _ _ _ _ _
        · intro j hj ih2 o11
          have hj2 : (j : Int) < cRc m 1 pn := by rw [ep] at hj; omega
          have hky := (hTp.2.2.1 j hj2).1
          have hrw2 := (hTp.2.2.1 j hj2)
          rw [b159_313]
          refine sp72 hS2 ?_
          rw [kGiveR_in hk1, mm_psh_i, b159_321, if_pos (by omega), b159_324]
          refine sp73 hS2 ?_
          have ek : kKeyAt B (kOf B r 1) j = cKy m 1 pn j := by
            rw [ep]
            exact kKeyAt_at hS2 (by omega) (by omega)
          rw [ek, mm_psh_i, b159_337]
          refine sp75 hS2 ?_
          have eg : kGiveC B r (cKy m 1 pn j) = hCh B r (cKy m 1 pn j).toNat := by
            unfold kGiveC
            rw [if_pos ⟨⟨by omega, by omega⟩, hk1, by omega, by rw [ep, hrw2.2.1]; omega⟩]
            refine cnt_co (fun i hi => ?_)
            show decide _ = (decide _ && decide _)
            rw [← Bool.decide_and, decide_eq_decide]
            show (0 ≤ kCe B (100 * kOf B r 0 + i) ∧ kV B (100 * kOf B r 0 + i) (kOf B r 2) = (100 * kOf B r 1 + cKy m 1 pn j) % 100 ∧ kOf B r 1 = (100 * kOf B r 1 + cKy m 1 pn j) / 100) ↔ (0 ≤ kCe B (100 * kOf B r 0 + i) ∧ kV B (100 * kOf B r 0 + i) (kOf B r 2) = ((cKy m 1 pn j).toNat : Int))
            omega
          have es := hTp.sstep chz hj2
          have s1 := sb (cAt m 1 pn j)
          have s2 := (hTp.le j).1
          have s3 := cnt_nn 100 (fun i => hRw B r i && decide (hVl B r i = ((cKy m 1 pn j).toNat : Nat)))
          have s4 := cnt_le 100 (fun i => hRw B r i && decide (hVl B r i = ((cKy m 1 pn j).toNat : Nat)))
          rw [eg, mm_psh_i, b159_340, mm_wi (z := (j : Int) + 1) (by omega) (by omega), mm_wi (z := sumN (hCh B r) (cAt m 1 pn j) + hCh B r (cKy m 1 pn j).toNat) (by show -2147483648 ≤ sumN (hCh B r) (cAt m 1 pn j) + cnt 100 (fun i => hRw B r i && decide (hVl B r i = ((cKy m 1 pn j).toNat : Nat))); omega) (by show sumN (hCh B r) (cAt m 1 pn j) + cnt 100 (fun i => hRw B r i && decide (hVl B r i = ((cKy m 1 pn j).toNat : Nat))) < 2147483648; omega), ← es]
          exact ih2 o11
      -- the children's values
      refine mm_for (fun j => ∀ (o11 : Option mm_V), mwp X 159 205 [some (.inr (some 0)), some (.inl (kAll B)), some (.inl (cnt (100 * r) (hN B) + cnt (cAt m 1 cn j) (hNu B r))), some (.inl 1), some (.inl (r : Int)), some (.inl (kOf B r 0)), some (.inl (kOf B r 1)), some (.inl (kOf B r 2)), some (.inl 0), some (.inl (cnt (cAt m 1 cn j) (hVa B r))), some (.inl (j : Int)), o11] [] (mm_ms0 m h) Q) (kRows B (kOf B r 0)).toNat ?_ ?_ 0 (Nat.zero_le _) o11
      · intro o11
        have e1 : cnt (100 * r) (hN B) + cnt (cAt m 1 cn (kRows B (kOf B r 0)).toNat) (hNu B r) = cnt (100 * (r + 1)) (hN B) := by
          rw [hN_succ, ec, rwc, hTc.fin nuz]
        have e2 : cnt (cAt m 1 cn (kRows B (kOf B r 0)).toNat) (hVa B r) = cnt 100 (hVa B r) := by
          rw [ec, rwc, hTc.fin vaz]
        rw [b159_205]
        refine sp72 hS2 ?_
        rw [kGiveR_in hk0, mm_psh_i, b159_213, if_neg (by omega), b159_310, e1, e2]
        exact par 0 (Nat.zero_le _) o11
      · intro j hj ih2 o11
        have hj2 : (j : Int) < cRc m 1 cn := by rw [ec] at hj; omega
        have hrw2 := (hTc.2.2.1 j hj2)
        have hky := hrw2.1
        have hle := (hTc.le j).1
        have n1 := hTc.step nuz hj2
        have n2 := hTc.step vaz hj2
        have c1 := cnt_nn (cAt m 1 cn j) (hNu B r)
        have c2 := cnt_le (cAt m 1 cn j) (hNu B r)
        have c3 := cnt_nn (cAt m 1 cn j) (hVa B r)
        have c4 := cnt_le (cAt m 1 cn j) (hVa B r)
        have hrow : 0 ≤ kCe B (100 * kOf B r 0 + ((cKy m 1 cn j).toNat : Nat)) := by
          rw [ec, show (((cKy m 1 cn j).toNat : Nat) : Int) = cKy m 1 cn j by omega, hrw2.2.1]
          omega
        have hv := val (cKy m 1 cn j).toNat (by omega) hrow
        have eN : hNu B r (cKy m 1 cn j).toNat = decide (hVl B r (cKy m 1 cn j).toNat = -1) := by
          show (decide _ && decide _) = _
          rw [decide_eq_true hrow, Bool.true_and]
        have eV : hVa B r (cKy m 1 cn j).toNat = decide (hVl B r (cKy m 1 cn j).toNat ≠ -1) := by
          show (decide _ && decide _) = _
          rw [decide_eq_true hrow, Bool.true_and]
        rw [n1, n2, eN, eV] at ih2
        rw [b159_205]
        refine sp72 hS2 ?_
        rw [kGiveR_in hk0, mm_psh_i, b159_213, if_pos (by omega), b159_216]
        refine sp73 hS2 ?_
        have ek : kKeyAt B (kOf B r 0) j = cKy m 1 cn j := by
          rw [ec]
          exact kKeyAt_at hS2 (by omega) (by omega)
        rw [ek, mm_psh_i, b159_227]
        refine sp74 hS2 ?_
        have eg : kGiveV B (kOf B r 0) (cKy m 1 cn j) (kOf B r 2) = hVl B r (cKy m 1 cn j).toNat := by
          unfold kGiveV
          rw [if_pos ⟨⟨hk0, by omega, by rw [show cKy m 1 cn j = ((cKy m 1 cn j).toNat : Nat) by omega]; exact hrow⟩, by omega, by omega⟩]
          show kV B _ _ = kV B _ _
          rw [show (((cKy m 1 cn j).toNat : Nat) : Int) = cKy m 1 cn j by omega]
        rw [eg, mm_psh_i]
        generalize hVl B r (cKy m 1 cn j).toNat = z at hv ih2 ⊢
        rw [b159_232]
        by_cases qz : z = -1
        · rw [if_pos (decide_eq_true qz), if_neg (by simpa using qz)] at ih2
          rw [if_pos qz, b159_241, b159_246, if_pos qz, b159_256, b159_261, if_neg (by decide), b159_268, if_pos qz, b159_274]
          refine sp76 hS2 ?_
          rw [kGiveF_in (by omega) (by decide), mm_psh_i, b159_281, if_pos (hv.2.2 qz), b159_284, b159_298, b159_303, mm_wi (z := (j : Int) + 1) (by omega) (by omega), mm_wi (z := cnt (100 * r) (hN B) + cnt (cAt m 1 cn j) (hNu B r) + 1) (by omega) (by omega), mm_wi (z := cnt (cAt m 1 cn j) (hVa B r) + 0) (by omega) (by omega), Int.add_assoc]
          exact ih2 _
        · rw [if_neg (by simpa using qz), if_pos (decide_eq_true qz)] at ih2
          rw [if_neg qz, b159_245, b159_246, if_neg qz, b159_260, b159_261, if_neg (by decide), b159_268, if_neg qz, b159_287]
          refine sp158 hS2 (hv.2.1 qz) ?_
          rw [mm_psh_i, b159_295, if_neg (by decide), b159_298, b159_303, mm_wi (z := (j : Int) + 1) (by omega) (by omega), mm_wi (z := cnt (100 * r) (hN B) + cnt (cAt m 1 cn j) (hNu B r) + 0) (by omega) (by omega), mm_wi (z := cnt (cAt m 1 cn j) (hVa B r) + 1) (by omega) (by omega), Int.add_assoc]
          exact ih2 _
  -- the tables
  rw [c159, b159_0]
  refine mm_for (fun t => ∀ (m : mm_M), cFD mi m → ∀ (o5 o6 o7 : Option mm_V), mwp X 159 9 [some (.inr (some 0)), some (.inl (kAllN B t)), some (.inl 0), some (.inl 1), some (.inl (t : Int)), o5, o6, o7, none, none, none, none] [] (mm_ms0 m h) Q) (B 0).toNat ?_ ?_ 0 (Nat.zero_le _) mi cFD.rf none none none
  · intro m hm o5 o6 o7
    have hS2 := hm.S hS
    rw [b159_9]
    refine sp78 hS2 ?_
    rw [kTotC_0, mm_psh_i, b159_16, if_neg (by omega), b159_152]
    exact refs m hm 0 (Nat.zero_le _) _ _ _ _ _ _ _
  · intro t ht ih m hm o5 o6 o7
    have hS2 := hm.S hS
    have hT := hS2.2.2.2.2 t (by omega)
    have rw0 := hT.rows
    have r20 := hT.1
    have a1 := kAllN_in B t
    have hin : (0 : Int) ≤ t ∧ (t : Int) < B 0 := by omega
    rw [b159_9]
    refine sp78 hS2 ?_
    rw [kTotC_0, mm_psh_i, b159_16, if_pos (by omega), b159_19, if_neg (by decide), b159_23]
    refine sp72 hS2 ?_
    rw [kGiveR_in hin, mm_psh_i, b159_30, mm_wi (z := kAllN B t + kRows B t) (by omega) (by omega)]
    refine mm_for (fun j => ∀ (o7 : Option mm_V), mwp X 159 38 [some (.inr (some 0)), some (.inl (kAllN B (t + 1))), some (.inl 0), some (.inl 1), some (.inl (t : Int)), some (.inl (if j = 0 then -1 else cKy m 1 t (j - 1))), some (.inl (j : Int)), o7, none, none, none, none] [] (mm_ms0 m h) Q) (kRows B t).toNat ?_ ?_ 0 (Nat.zero_le _) o7
    · intro o7
      rw [b159_38]
      refine sp72 hS2 ?_
      rw [kGiveR_in hin, mm_psh_i, b159_46, if_neg (by omega), b159_93, if_neg (by decide), b159_97]
      refine sp72 hS2 ?_
      rw [kGiveR_in hin, mm_psh_i, b159_106]
      refine sp73 hS2 ?_
      rw [kKeyAt_end hS2 hin.2, mm_psh_i, b159_109, if_pos rfl, b159_114]
      refine sp72 hS2 ?_
      rw [kGiveR_in hin, mm_psh_i, b159_120, if_neg (by omega), b159_125]
      refine sp84 hS2 (fun m2 hm2 => ?_)
      have hS3 := hm2.S hS2
      have hde := kGiveDe_in hin
      rw [mm_psh_i, b159_131]
      refine sp72 hS3 ?_
      rw [kGiveR_in hin, mm_psh_i, b159_137, if_neg (by omega), b159_140, b159_145, mm_wi (by omega) (by omega)]
      exact ih m2 (hm.tr hm2) _ _ _
    · intro j hj ih2 o7
      have hj2 : (j : Int) < cRc m 1 t := by omega
      have hky := (hT.2.2.1 j hj2).1
      have hlt : (if j = 0 then (-1 : Int) else cKy m 1 t (j - 1)) < cKy m 1 t j := by
        by_cases q : j = 0
        · rw [if_pos q]; omega
        · rw [if_neg q]
          exact hT.2.2.2.1 (j - 1) j (by omega) hj2
      rw [if_neg (show ¬ j + 1 = 0 by omega), show j + 1 - 1 = j by omega] at ih2
      rw [b159_38]
      refine sp72 hS2 ?_
      rw [kGiveR_in hin, mm_psh_i, b159_46, if_pos (by omega), b159_49]
      refine sp73 hS2 ?_
      rw [kKeyAt_at hS2 hin.2 (by omega), mm_psh_i, b159_57, if_neg (by decide), b159_63, if_pos hlt, b159_70, if_pos (by omega), b159_77, b159_82, mm_wi (by omega) (by omega)]
      exact ih2 _
end LH
