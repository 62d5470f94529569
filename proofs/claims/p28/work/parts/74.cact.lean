-- THE CLASS: the calls that change it
/-- the whole class holds these blocks -/
def cRel (mi : mm_M) (h : mm_H) (Bs : Nat → Int → Int) (n : Int) : Prop := cHi mi h Bs n ∧ cSB mi 1 (Bs 0) ∧ (mi 0 3 = 0 ∨ mi 0 3 = 1) ∧ (mi 0 3 ≠ 0 → cSB mi 17 (Bs 5))
/-- text and reference stay -/
def cOut (mi m2 : mm_M) : Prop := (∀ a, a = 60 ∨ 69 ≤ a → m2 a = mi a) ∧ m2 59 1 = mi 59 1
def aTk (Bs : Nat → Int → Int) (n : Int) (B2 : Int → Int) : Nat → Int → Int := fun i => if i = 0 then B2 else if i = 5 then Bs 5 else aPush Bs n (Bs 0) i
abbrev cAct (mi : mm_M) (h : mm_H) (Q : Option mm_V → mm_S → Prop) (Bs : Nat → Int → Int) (n : Int) (r : Int × (Int → Int)) : Prop := (r.1 < -1 → ∀ m2, cRel m2 h Bs n → cOut mi m2 → m2 0 3 = mi 0 3 → Q (some (.inl r.1)) (mm_ms0 m2 h)) ∧ (-1 ≤ r.1 → ∀ m2 h2, cRel m2 h2 (aTk Bs n r.2) (kAccN n) → cOut mi m2 → m2 0 3 = mi 0 3 → Q (some (.inl r.1)) (mm_ms0 m2 h2))
section CA
variable {X : Nat × (Nat → Int)} {mi : mm_M} {h : mm_H} {Q : Option mm_V → mm_S → Prop} {Bs : Nat → Int → Int} {n : Int}
theorem cOut.rf : cOut mi mi := ⟨fun _ _ => rfl, rfl⟩
theorem cOut.tr {m1 m2 m3 : mm_M} (h1 : cOut m1 m2) (h2 : cOut m2 m3) : cOut m1 m3 := ⟨fun a ha => (h2.1 a ha).trans (h1.1 a ha), h2.2.trans h1.2⟩
/-- cells that neither the State now nor what it stands beside reads -/
theorem cRel.co {m2 : mm_M} (hR : cRel mi h Bs n) (e : ∀ x, x ≤ 58 → m2 x = mi x) : cRel m2 h Bs n := by
  obtain ⟨⟨hh, hn4, h25, hst⟩, hS, h03, hsn⟩ := hR
  refine ⟨⟨hh, hn4, by rw [e 25 (by decide)]; exact h25, fun i hi => ?_⟩, hS.co (fun j hj => e _ (by omega)), by rw [e 0 (by decide)]; exact h03, fun z => ?_⟩
  · have hx := hh.2.1 i (by omega)
    unfold hSt at hx
    exact (hst i hi).co (fun j hj => e _ (by omega))
  · rw [e 0 (by decide)] at z
    exact (hsn z).co (fun j hj => e _ (by omega))
/-- the state before is remembered, then the State now is another -/
theorem cRel.take {m2 m3 : mm_M} {h2 : mm_H} {B2 : Int → Int} (hR : cRel mi h Bs n) (hH : cHi m2 h2 (aPush Bs n (Bs 0)) (kAccN n)) (hF : ∀ x, x < 25 ∨ 58 < x → m2 x = mi x) (hB : cSB m3 1 B2) (hF3 : ∀ x, x = 0 ∨ (16 < x ∧ x < 59) → m3 x = m2 x) : cRel m3 h2 (aTk Bs n B2) (kAccN n) := by
  obtain ⟨-, hS, h03, hsn⟩ := hR
  have z0 : m3 0 3 = mi 0 3 := by rw [hF3 0 (Or.inl rfl), hF 0 (Or.inl (by decide))]
  have hH2 : cHi m3 h2 (aPush Bs n (Bs 0)) (kAccN n) := by
    obtain ⟨hh, hn4, h25, hst⟩ := hH
    refine ⟨hh, hn4, by rw [hF3 25 (Or.inr (by decide))]; exact h25, fun i hi => ?_⟩
    have hx := hh.2.1 i (by omega)
    unfold hSt at hx
    exact (hst i hi).co (fun j hj => hF3 _ (by omega))
  refine ⟨hH2.eq (fun i h1 h4 => ?_), hB, by rw [z0]; exact h03, fun z => ?_⟩
  · have := hH2.2.1.2
    unfold aTk
    rw [if_neg (by omega), if_neg (by omega)]
  · rw [z0] at z
    exact (hsn z).co (fun j hj => by rw [hF3 _ (by omega), hF _ (by omega)])
theorem sp60 (hR : cRel mi h Bs n) (hq : cAct mi h Q Bs n (kAddT (Bs 0))) : mcl X 60 [.inr (some 0)] (mm_ms0 mi h) Q := by
  have hS := hR.2.1
  have w0 := hS.1.1.1.1
  unfold kAddT at hq
  rw [c60, b60_0, hS.1.2.1.1]
  by_cases q : Bs 0 0 = 6
  · rw [if_pos q] at hq
    rw [if_neg (by omega), b60_12]
    exact hq.1 (by dsimp only; decide) mi hR cOut.rf rfl
  · rw [if_neg q] at hq
    rw [if_pos (by omega), b60_15]
    refine sp18 (Or.inl rfl) hR.1 hS ?_
    intro m2 h2 hH hF
    have hS2 : cSB m2 1 (Bs 0) := hS.co (fun j hj => hF _ (by omega))
    rw [mm_psh_n, b60_26]
    refine sp48 hS2.1 (by omega) ?_
    intro m3 hS3 hF3
    have hfk : bFk (bUp (Bs 0) 0 (Bs 0 0 + 1)) := hS.2.co hS.1.1 (bUp_ne (by decide)) (fun r w a b c d => bUp_ne (by omega)) (fun x hx => bUp_ne (by omega))
    rw [mm_psh_i, b60_33]
    exact hq.2 (by dsimp only; omega) m3 h2 (hR.take hH hF ⟨hS3, hfk⟩ (fun x hx => hF3 x (by omega))) ⟨fun a ha => by rw [hF3 a (by omega), hF a (by omega)], by rw [hF3 59 (by omega), hF 59 (by omega)]⟩ (by rw [hF3 0 (by omega), hF 0 (by omega)])
theorem sp61 (hR : cRel mi h Bs n) {c p rule q d : Int} (hq : cAct mi h Q Bs n (kAddR (Bs 0) c p rule q d)) : mcl X 61 [.inr (some 0), .inl c, .inl p, .inl rule, .inl q, .inl d] (mm_ms0 mi h) Q := by
  have hS := hR.2.1
  have w0 := hS.1.1.1.1
  have w1 := hS.1.1.1.2.1
  unfold kAddR at hq
  have no : kBadR (Bs 0) c p → mwp X 61 22 [some (.inr (some 0)), some (.inl c), some (.inl p), some (.inl rule), some (.inl q), some (.inl d)] [] (mm_ms0 mi h) Q := by
    intro z
    rw [if_pos z] at hq
    rw [b61_22]
    exact hq.1 (by dsimp only; decide) mi hR cOut.rf rfl
  rw [c61, b61_0, sp35 hS.1, mm_psh_i, b61_8, mm_ite0]
  by_cases q1 : 0 ≤ c ∧ c < Bs 0 0
  · rw [if_pos q1, b61_11, sp35 hS.1, mm_psh_i, b61_19, mm_ite0]
    by_cases q2 : 0 ≤ p ∧ p < Bs 0 0
    · rw [if_neg (show ¬ kBadR (Bs 0) c p from fun z => z ⟨q1, q2⟩)] at hq
      have no2 : kBadN rule d → mwp X 61 40 [some (.inr (some 0)), some (.inl c), some (.inl p), some (.inl rule), some (.inl q), some (.inl d)] [] (mm_ms0 mi h) Q := by
        intro z
        rw [if_pos z] at hq
        rw [b61_40]
        exact hq.1 (by dsimp only; decide) mi hR cOut.rf rfl
      rw [if_pos q2, b61_25, sp86, mm_psh_i, b61_29, mm_ite0]
      by_cases q3 : 0 ≤ rule ∧ rule ≤ 4
      · rw [if_pos q3, b61_32, sp88, mm_psh_i, b61_37, mm_ite0]
        by_cases q4 : -1 ≤ d ∧ d ≤ 99
        · rw [if_neg (show ¬ kBadN rule d from fun z => z ⟨q3, q4⟩)] at hq
          have no3 : (Bs 0 1 = 12 ∨ kCols (Bs 0) c = 2) → mwp X 61 68 [some (.inr (some 0)), some (.inl c), some (.inl p), some (.inl rule), some (.inl q), some (.inl d)] [] (mm_ms0 mi h) Q := by
            intro z
            rw [if_pos z] at hq
            rw [b61_68]
            exact hq.1 (by dsimp only; decide) mi hR cOut.rf rfl
          have hc2 := hS.1.1.2.1 c
          rw [if_pos q4, b61_43, hS.1.2.1.2.1]
          by_cases q5 : Bs 0 1 = 12
          · rw [if_neg (by omega)]
            exact no3 (Or.inl q5)
          · rw [if_pos (by omega), b61_55, mm_andT (by omega), b61_64, cCol hS.1 (by omega)]
            by_cases q6 : kCols (Bs 0) c = 2
            · rw [if_neg (by omega)]
              exact no3 (Or.inr q6)
            · rw [if_neg (fun z => z.elim q5 q6)] at hq
              rw [if_pos (by omega), b61_71, mm_andT (by omega), b61_80, show mi 2 c.toNat = cRc mi 1 c.toNat from rfl, ← cRows hS.1 (t := c) (by omega)]
              by_cases q7 : 0 < kRows (Bs 0) c
              · rw [if_pos q7] at hq
                rw [if_pos q7, b61_83]
                exact hq.1 (by dsimp only; decide) mi hR cOut.rf rfl
              · rw [if_neg q7] at hq
                rw [if_neg q7, b61_86]
                refine sp18 (Or.inl rfl) hR.1 hS ?_
                intro m2 h2 hH hF
                have hS2 : cSB m2 1 (Bs 0) := hS.co (fun j hj => hF _ (by omega))
                rw [mm_psh_n, b61_97]
                refine sp49 hS2.1 q1 q2 q3 q4 (by omega) (by omega) ?_
                intro m3 hS3 hF3
                have hfk : bFk (kAddRB (Bs 0) c p rule q d) := by
                  obtain ⟨a1, a2, a3, a4, a5, a6, a7⟩ := kAddRB_at (B := Bs 0) (c := c) (p := p) (rule := rule) (q := q) (d := d) w1.1
                  intro e he hrow hv
                  have hg : gR (kAddRB (Bs 0) c p rule q d) = gR (Bs 0) + 100 := by unfold gR; rw [a1]; omega
                  rw [hg] at he
                  have hg0 : (gR (Bs 0) : Int) = 100 * Bs 0 1 := by unfold gR; omega
                  have ce : ∀ x, 0 ≤ x → kCe (kAddRB (Bs 0) c p rule q d) x = kCe (Bs 0) x := fun x hx => kAddRB_ne (by omega) (by omega)
                  by_cases el : e < gR (Bs 0)
                  · obtain ⟨g1, g2, g3, g4, g5, g6, g7, g8⟩ := g_at hS.1.1.1 el
                    have of : ∀ w : Int, 0 ≤ w → w < 6 → kOf (kAddRB (Bs 0) c p rule q d) ((e / 100 : Nat) : Int) w = kOf (Bs 0) ((e / 100 : Nat) : Int) w := fun w z1 z2 => kAddRB_ne (by omega) (by omega)
                    have ech : gCh (kAddRB (Bs 0) c p rule q d) e = gCh (Bs 0) e := by unfold gCh; rw [of 0 (by decide) (by decide)]
                    have evv : gVal (kAddRB (Bs 0) c p rule q d) e = gVal (Bs 0) e := by
                      show kV _ (gCh _ e) (kOf _ _ 2) = kV _ (gCh _ e) (kOf _ _ 2)
                      rw [ech, of 2 (by decide) (by decide)]
                      unfold kV
                      rw [ce _ g1.1]
                    have row : gRow (Bs 0) e := by
                      have : 0 ≤ kCe (kAddRB (Bs 0) c p rule q d) (gCh (kAddRB (Bs 0) c p rule q d) e) := hrow
                      rw [ech, ce _ g1.1] at this
                      exact this
                    rw [evv] at hv
                    have hpp := (g6 row).2 hv
                    have epp : gPar (kAddRB (Bs 0) c p rule q d) e = gPar (Bs 0) e := by
                      show 100 * kOf _ _ 1 + gVal _ e = 100 * kOf _ _ 1 + gVal _ e
                      rw [evv, of 1 (by decide) (by decide)]
                    rw [epp, ce _ hpp.1]
                    exact hS.2 e el row hv
                  · exfalso
                    have er : ((e / 100 : Nat) : Int) = Bs 0 1 := by omega
                    have : 0 ≤ kCe (kAddRB (Bs 0) c p rule q d) (gCh (kAddRB (Bs 0) c p rule q d) e) := hrow
                    have ech : gCh (kAddRB (Bs 0) c p rule q d) e = 100 * c + ((e % 100 : Nat) : Int) := by unfold gCh; rw [er, a2]
                    rw [ech, ce _ (by omega)] at this
                    have hz : cnt (e % 100 + 1) (fun k => decide (0 ≤ kCe (Bs 0) (100 * c + k))) ≤ kRows (Bs 0) c := cnt_mono _ (by omega)
                    rw [cnt_succ, if_pos (decide_eq_true this)] at hz
                    have := cnt_nn (e % 100) (fun k => decide (0 ≤ kCe (Bs 0) (100 * c + k)))
                    omega
                rw [mm_psh_i, b61_111]
                exact hq.2 (by dsimp only; omega) m3 h2 (hR.take hH hF ⟨hS3, hfk⟩ (fun x hx => hF3 x (by omega))) ⟨fun a ha => by rw [hF3 a (by omega), hF a (by omega)], by rw [hF3 59 (by omega), hF 59 (by omega)]⟩ (by rw [hF3 0 (by omega), hF 0 (by omega)])
        · rw [if_neg q4]
          exact no2 (fun z => q4 z.2)
      · rw [if_neg q3]
        exact no2 (fun z => q3 z.1)
    · rw [if_neg q2]
      exact no (fun z => q2 z.2)
  · rw [if_neg q1]
    exact no (fun z => q1 z.1)
theorem sp62 (hR : cRel mi h Bs n) {r v : Int} (hq : cAct mi h Q Bs n (kSetR (Bs 0) r v)) : mcl X 62 [.inr (some 0), .inl r, .inl v] (mm_ms0 mi h) Q := by
  have hS := hR.2.1
  have w1 := hS.1.1.1.2.1
  unfold kSetR at hq
  rw [c62, b62_0, sp36 hS.1, mm_psh_i, b62_8, mm_ite0]
  by_cases q1 : 0 ≤ r ∧ r < Bs 0 1
  · have hk := hS.1.1.1.2.2.1 r q1.1 q1.2
    have h3 := hk.2.2.2.1
    rw [if_neg (fun z => z q1)] at hq
    rw [if_pos q1, b62_14, sp86, mm_psh_i, b62_18, mm_ite0]
    by_cases q2 : 0 ≤ v ∧ v ≤ 4
    · rw [if_neg (fun z => z q2)] at hq
      rw [if_pos q2, b62_24, sp41 hS.1 q1 (by omega), mm_psh_i, b62_33]
      by_cases q3 : kOf (Bs 0) r 3 = v
      · rw [if_pos q3] at hq
        rw [if_pos q3, b62_39]
        exact hq.1 (by dsimp only; decide) mi hR cOut.rf rfl
      · rw [if_neg q3] at hq
        rw [if_neg q3, b62_42]
        refine sp18 (Or.inl rfl) hR.1 hS ?_
        intro m2 h2 hH hF
        have hS2 : cSB m2 1 (Bs 0) := hS.co (fun j hj => hF _ (by omega))
        have hfk : bFk (bUp (Bs 0) (6 + 6 * r + 3) v) := hS.2.co hS.1.1 (bUp_ne (by omega)) (fun s w a b c d => bUp_ne (by omega)) (fun x hx => bUp_ne (by omega))
        rw [mm_psh_n, b62_53, mm_wi (z := r * 6) (by omega) (by omega), mm_wi (z := r * 6 + 3) (by omega) (by omega), mm_andT (by omega), b62_68]
        refine hq.2 (by dsimp only; omega) _ h2 (hR.take hH hF ⟨cRule hS2.1 q1 q2, hfk⟩ (fun x hx => mm_up_ne (by omega))) ⟨fun a ha => by rw [mm_up_ne (by omega), hF a (by omega)], by rw [mm_up_ne (by decide), hF 59 (by omega)]⟩ (by rw [mm_up_ne (by decide), hF 0 (by omega)])
    · rw [if_pos q2] at hq
      rw [if_neg q2, b62_21]
      exact hq.1 (by dsimp only; decide) mi hR cOut.rf rfl
  · rw [if_pos q1] at hq
    rw [if_neg q1, b62_11]
    exact hq.1 (by dsimp only; decide) mi hR cOut.rf rfl
theorem sp63 (hR : cRel mi h Bs n) {t k v0 v1 : Int} (hq : cAct mi h Q Bs n (kIns (Bs 0) t k v0 v1)) : mcl X 63 [.inr (some 0), .inl t, .inl k, .inl v0, .inl v1] (mm_ms0 mi h) Q := by
  have hS := hR.2.1
  rw [c63, b63_0]
  refine sp50 hS.1 ?_ ?_
  · intro hlt
    rw [mm_psh_i, b63_12, if_neg (by omega), b63_19]
    exact hq.1 hlt mi hR cOut.rf rfl
  · intro hok
    have hkeep := kIns_keep hS.1.1 hS.2 hok
    have hpos : -1 ≤ (kIns (Bs 0) t k v0 v1).1 := by
      rw [kIns_ok hok]
      have : 0 ≤ kRows (kInsB (Bs 0) (100 * t + k) v0 v1) t := cnt_nn _ _
      dsimp only
      omega
    rw [mm_psh_i, b63_12, if_pos rfl, b63_22]
    refine sp18 (Or.inl rfl) hR.1 hS ?_
    intro m2 h2 hH hF
    have hS2 : cSB m2 1 (Bs 0) := hS.co (fun j hj => hF _ (by omega))
    rw [mm_psh_n, b63_33]
    refine sp55 hS2.1 hok ?_
    intro m3 hS3 hF3
    rw [mm_psh_i, b63_45]
    exact hq.2 hpos m3 h2 (hR.take hH hF ⟨hS3, hkeep.2⟩ (fun x hx => hF3 x (by omega))) ⟨fun a ha => by rw [hF3 a (by omega), hF a (by omega)], by rw [hF3 59 (by omega), hF 59 (by omega)]⟩ (by rw [hF3 0 (by omega), hF 0 (by omega)])
theorem sp64 (hR : cRel mi h Bs n) {t k c v : Int} (hq : cAct mi h Q Bs n (kUpd (Bs 0) t k c v)) : mcl X 64 [.inr (some 0), .inl t, .inl k, .inl c, .inl v] (mm_ms0 mi h) Q := by
  have hS := hR.2.1
  rw [c64, b64_0]
  refine sp51 hS.1 ?_ ?_
  · intro hlt
    rw [mm_psh_i, b64_12, if_neg (by omega), b64_19]
    exact hq.1 hlt mi hR cOut.rf rfl
  · intro hok
    have hkeep := kUpd_keep hS.1.1 hS.2 hok.1 hok.2.1 hok.2.2.2.1
    have hc2 := hS.1.1.2.1 t
    have hx : 0 ≤ 100 * t + k ∧ 100 * t + k < 600 := by
      have := hS.1.1.1.1
      have := hok.1.1.1
      have := hok.1.1.2.1
      omega
    have hv := kV_in2 (c := c) ⟨hok.1.1.2.2, (hS.1.1.1.2.2.2 _ hx.1 hx.2).2⟩
    rw [kUpd_ok hok] at hq
    rw [mm_psh_i, b64_12, if_pos rfl, b64_22]
    refine sp18 (Or.inl rfl) hR.1 hS ?_
    intro m2 h2 hH hF
    have hS2 : cSB m2 1 (Bs 0) := hS.co (fun j hj => hF _ (by omega))
    rw [mm_psh_n, b64_33]
    refine sp56 hS2.1 hok.1.1 (by have := hok.1.2; omega) hok.2.1 ?_
    intro m3 hS3 hF3
    rw [mm_psh_i, b64_45]
    exact hq.2 (by dsimp only; omega) m3 h2 (hR.take hH hF ⟨hS3, hkeep.2⟩ (fun x hx => hF3 x (by omega))) ⟨fun a ha => by rw [hF3 a (by omega), hF a (by omega)], by rw [hF3 59 (by omega), hF 59 (by omega)]⟩ (by rw [hF3 0 (by omega), hF 0 (by omega)])
theorem cPlan.co {m2 : mm_M} {B : Int → Int} {x : Int} (hP : cPlan mi B x) (e : ∀ a, 61 ≤ a → a ≤ 65 → m2 a = mi a) : cPlan m2 B x := by
  obtain ⟨p1, p2, p3⟩ := hP
  refine ⟨?_, by rw [e 61 (by decide) (by decide)]; exact p2, fun i hi => by rw [e 62 (by decide) (by decide)]; exact p3 i hi⟩
  unfold mA
  rw [e 63 (by decide) (by decide)]
  exact p1
theorem sp65 (hR : cRel mi h Bs n) {t k : Int} (hq : cAct mi h Q Bs n (kDele (Bs 0) t k)) : mcl X 65 [.inr (some 0), .inl t, .inl k] (mm_ms0 mi h) Q := by
  have hS := hR.2.1
  have w0 := hS.1.1.1.1
  have fd : ∀ m2, cFD mi m2 → cRel m2 h Bs n ∧ cOut mi m2 ∧ m2 0 3 = mi 0 3 := fun m2 hF => ⟨hR.co (fun x hx => hF x (by omega)), ⟨fun a ha => hF a (by omega), by rw [hF 59 (by omega)]⟩, by rw [hF 0 (by omega)]⟩
  unfold kDele at hq
  rw [c65, b65_0]
  refine sp5 hS.1 ?_ ?_ ?_
  · intro hn
    rw [if_neg hn] at hq
    rw [mm_psh_i, b65_13, if_neg (by decide), b65_18]
    exact hq.1 (by dsimp only; decide) mi hR cOut.rf rfl
  · intro hrow hw m1 hF1 hP y2 y3 y4
    have hx : 0 ≤ 100 * t + k ∧ 100 * t + k < 600 := by
      have := hrow.1
      have := hrow.2.1
      omega
    have hkeep := kDele_keep hS.1.1 hS.2 hrow hw
    rw [if_pos hrow, hw] at hq
    dsimp only at hq
    obtain ⟨g1, g2, g3⟩ := fd m1 hF1
    have hS1 := g1.2.1
    rw [mm_psh_i, b65_13, if_pos rfl, b65_20]
    refine sp18 (Or.inl rfl) g1.1 hS1 ?_
    intro m2 h2 hH hF
    have hS2 : cSB m2 1 (Bs 0) := hS1.co (fun j hj => hF _ (by omega))
    have hP2 : cPlan m2 (Bs 0) (100 * t + k) := hP.co (fun a h1 h2 => hF a (by omega))
    rw [mm_psh_n, b65_31]
    refine sp15 hS2.1 hx hrow.2.2 hw hP2 (by rw [hF 61 (by omega)]; exact y4) ?_
    intro m3 hS3 hF3
    rw [mm_psh_i, b65_42]
    generalize kDel (Bs 0) (100 * t + k) = D at hq hkeep hS3
    generalize (kOut (Bs 0) (100 * t + k)).length = len at hq ⊢
    exact hq.2 (by omega) m3 h2 (g1.take hH hF ⟨hS3, hkeep.2⟩ (fun x hx => hF3 x (by omega))) (g2.tr ⟨fun a ha => by rw [hF3 a (by omega), hF a (by omega)], by rw [hF3 59 (by omega), hF 59 (by omega)]⟩) (by rw [hF3 0 (by omega), hF 0 (by omega)]; exact g3)
  · intro hrow e hw m1 hF1 hP y2 y3
    rw [if_pos hrow, hw] at hq
    dsimp only at hq
    obtain ⟨g1, g2, g3⟩ := fd m1 hF1
    rw [mm_psh_i, b65_13, if_neg (by decide), b65_18]
    exact hq.1 (by dsimp only; decide) m1 g1 g2 g3
theorem sp69 (hR : cRel mi h Bs n) (h0 : n = 0 → Q (some (.inl (-9))) (mm_ms0 mi h)) (h1 : 1 ≤ n → ∀ m2, cRel m2 h (fun i => if i = 0 then Bs n.toNat else Bs i) (n - 1) → cOut mi m2 → m2 0 3 = mi 0 3 → Q (some (.inl (n - 1))) (mm_ms0 m2 h)) : mcl X 69 [.inr (some 0)] (mm_ms0 mi h) Q := by
  rw [c69, b69_0]
  refine sp20 hR.1 ?_ ?_
  · intro z
    rw [mm_psh_i, b69_11]
    exact h0 z
  · intro z m2 hH hB hF
    rw [mm_psh_i, b69_11]
    refine h1 z m2 ⟨hH.eq (fun i a b => if_neg (by omega)), ?_, by rw [hF 0 (by omega)]; exact hR.2.2.1, fun y => ?_⟩ ⟨fun a ha => hF a (by omega), by rw [hF 59 (by omega)]⟩ (by rw [hF 0 (by omega)])
    · dsimp only
      rw [if_pos rfl]
      exact hB
    · rw [hF 0 (by omega)] at y
      dsimp only
      rw [if_neg (by decide)]
      exact (hR.2.2.2 y).co (fun j hj => hF _ (by omega))
theorem sp70 (hR : cRel mi h Bs n) (hq : ∀ m2, cRel m2 h (fun i => if i = 5 then Bs 0 else Bs i) n → cOut mi m2 → m2 0 3 = 1 → Q (some (.inl (kAll (Bs 0)))) (mm_ms0 m2 h)) : mcl X 70 [.inr (some 0)] (mm_ms0 mi h) Q := by
  obtain ⟨⟨hh, hn4, h25, hst⟩, hS, h03, hsn⟩ := hR
  rw [c70, b70_0]
  refine sp34p17_1 ?_
  intro M hC hF
  have hS2 : cSB (mm_up M 0 3 1) 1 (Bs 0) := hS.co (fun j hj => by rw [mm_up_ne (by omega), hF _ (by omega)])
  rw [mm_psh_n, b70_11]
  refine sp45 hS2.1 ?_
  rw [mm_psh_i, b70_23]
  refine hq _ ⟨⟨hh, hn4, by rw [mm_up_ne (by decide), hF 25 (by omega)]; exact h25, fun i hi => ?_⟩, hS2, Or.inr mm_up_at, fun _ => ?_⟩ ⟨fun a ha => by rw [mm_up_ne (by omega), hF a (by omega)], by rw [mm_up_ne (by decide), hF 59 (by omega)]⟩ mm_up_at
  · have hx := hh.2.1 i (by omega)
    unfold hSt at hx
    dsimp only
    rw [if_neg (by omega)]
    exact (hst i hi).co (fun j hj => by rw [mm_up_ne (by omega), hF _ (by omega)])
  · dsimp only
    rw [if_pos rfl]
    have : cSB M 17 (Bs 0) := ⟨hS.1.cp hC, hS.2⟩
    exact this.co (fun j hj => by rw [mm_up_ne (by omega)])
theorem sp71 (hR : cRel mi h Bs n) (h0 : mi 0 3 = 0 → Q (some (.inl (-9))) (mm_ms0 mi h)) (h1 : mi 0 3 ≠ 0 → ∀ m2 h2, cRel m2 h2 (aTk Bs n (Bs 5)) (kAccN n) → cOut mi m2 → m2 0 3 = mi 0 3 → Q (some (.inl (kAll (Bs 5)))) (mm_ms0 m2 h2)) : mcl X 71 [.inr (some 0)] (mm_ms0 mi h) Q := by
  rw [c71, b71_0]
  by_cases q : mi 0 3 = 0
  · rw [if_pos q, b71_7]
    exact h0 q
  · have hS := hR.2.1
    have hsn := hR.2.2.2 q
    rw [if_neg q, b71_10]
    refine sp18 (Or.inl rfl) hR.1 hS ?_
    intro m2 h2 hH hF
    have hsn2 : cSB m2 17 (Bs 5) := hsn.co (fun j hj => hF _ (by omega))
    rw [mm_psh_n, b71_21]
    refine sp34p1_17 ?_
    intro M hC hFA
    have hS3 : cSB M 1 (Bs 5) := ⟨hsn2.1.cp hC, hsn2.2⟩
    rw [mm_psh_n, b71_32]
    refine sp45 hS3.1 ?_
    rw [mm_psh_i, b71_39]
    exact h1 q M h2 (hR.take hH hF hS3 (fun x hx => hFA x (by omega))) ⟨fun a ha => by rw [hFA a (by omega), hF a (by omega)], by rw [hFA 59 (by omega), hF 59 (by omega)]⟩ (by rw [hFA 0 (by omega), hF 0 (by omega)])
end CA
