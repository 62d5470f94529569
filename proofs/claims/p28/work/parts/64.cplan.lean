-- THE CLASS plans a deletion and carries it out
theorem cIsR {B : Int → Int} (hI : bInv B) {x : Int} (hx : 0 ≤ x ∧ x < 600) (hc : 0 ≤ kCe B x) : kIsRow B (x / 100) (x % 100) := by
  refine ⟨⟨by omega, ?_⟩, by omega, by rw [show 100 * (x / 100) + x % 100 = x by omega]; exact hc⟩
  by_cases q : x / 100 < B 0
  · exact q
  · have := hI.2.2.2.2.1.2 x (by omega) hx.2
    omega
/-- a plan stands -/
def cPlan (mi : mm_M) (B : Int → Int) (x : Int) : Prop := mkEq (gMk B x) (mA mi 63) ∧ mi 61 1 = (kOut B x).length ∧ ∀ i, i < (kOut B x).length → mi 62 i = gAt (kOut B x) i
section CPL
variable {X : Nat × (Nat → Int)} {mi m0 : mm_M} {h : mm_H} {Q : Option mm_V → mm_S → Prop} {B : Int → Int}
theorem sp5 (hS : cS mi 1 B) {t k : Int} (hn : ¬ kIsRow B t k → Q (some (.inl (-2))) (mm_ms0 mi h)) (h0 : kIsRow B t k → kWhich B (100 * t + k) = none → ∀ m2, cFD mi m2 → cPlan m2 B (100 * t + k) → m2 61 2 = 0 → m2 61 3 = -9 → m2 61 4 = kChgN B (gMk B (100 * t + k)) (gR B) → Q (some (.inl 0)) (mm_ms0 m2 h))
    (hs : kIsRow B t k → ∀ e, kWhich B (100 * t + k) = some e → ∀ m2, cFD mi m2 → cPlan m2 B (100 * t + k) → m2 61 2 = gWhy B (gMk B (100 * t + k)) e → m2 61 3 = gCh B e → Q (some (.inl (-8))) (mm_ms0 m2 h)) : mcl X 5 [.inr (some 61), .inr (some 1), .inl t, .inl k] (mm_ms0 mi h) Q := by
  have hW := hS.1.1
  have hE := hS.1.ok.2.2
  have w0 := hW.1
  rw [c5, b5_0]
  refine sp39 hS ?_ ?_
  · intro j g1 g2 g3 g4 g5
    have hx : 0 ≤ 100 * t + k ∧ 100 * t + k < 600 := by
      have := g5.2.1
      omega
    have hc := g5.2.2
    rw [mm_psh_i, b5_6, if_neg (by omega), b5_13, sp89 (by omega) (by have := g5.2.1; omega), mm_psh_i, b5_20]
    refine sp6 hS hx hc ?_
    intro m1 hF1 hR1
    have hS1 := hF1.S hS
    have hmk : mkEq (gMk B (100 * t + k)) (mA m1 63) := fun z h1 h2 => hR1.2.1 z h1 h2
    have hpl : cPlan m1 B (100 * t + k) := ⟨hmk, hR1.2.2.1, fun i hi => hR1.2.2.2.1 i hi _ (gAt_mem hi).2⟩
    rw [mm_psh_n, b5_23]
    have pl2 : ∀ m2, cFJ m1 m2 → cPlan m2 B (100 * t + k) := by
      intro m2 hJ
      refine ⟨?_, by rw [hJ.2]; exact hpl.2.1, fun i hi => by rw [hJ.1 62 (by decide)]; exact hpl.2.2 i hi⟩
      unfold mA
      rw [hJ.1 63 (by decide)]
      exact hmk
    have fd2 : ∀ m2, cFJ m1 m2 → cFD mi m2 := fun m2 hJ => hF1.tr (fun a ha => hJ.1 a (by omega))
    refine sp10 hS1 (fun e he hh h2 => ?_) (fun hn m2 hJ y2 y3 y4 => ?_) (fun e he hb hf m2 hJ y2 y3 => ?_)
    · have hch := gCh_in hW he
      rw [hmk _ hch.1 hch.2]
      exact gMk_casc hW hE hx hc he (by rw [gHit_co hW hmk he] at hh; exact hh) h2
    · rw [fnx_co (fun e he => gBad_co hW hmk he)] at hn
      rw [mm_psh_n, b5_28, y2, if_pos rfl, b5_35, b5_41]
      refine h0 g5 hn m2 (fd2 m2 hJ) (pl2 m2 hJ) y2 y3 ?_
      rw [y4, kChgN_cnt hS.1 _ (Nat.le_refl _)]
      refine cnt_co fun e he => ?_
      have e0 := gHitU_co hW hmk he
      apply Bool.eq_iff_iff.mpr
      rw [decide_eq_true_eq, decide_eq_true_eq, e0]
    · rw [fnx_co (fun e he => gBad_co hW hmk he)] at hf
      have hpos : 0 < gWhy B (mA m1 63) e := (of_decide_eq_true hb).2
      rw [mm_psh_n, b5_28, y2, if_neg (by omega), b5_39, b5_41]
      exact hs g5 e hf m2 (fd2 m2 hJ) (pl2 m2 hJ) (by rw [y2, gWhy_co hW hmk he]) y3
  · intro g5
    rw [mm_psh_i, b5_6, if_pos rfl, b5_10]
    exact hn g5
/-- which rules change values -/
theorem hit_rule {x : Int} (hI : bInv B) (hx : 0 ≤ x ∧ x < 600) (hc : 0 ≤ kCe B x) (hn : kWhich B x = none) : ∀ e, e < gR B → gHitU B (gMk B x) e → kOf B ((e / 100 : Nat) : Int) 3 = 3 ∨ kOf B ((e / 100 : Nat) : Int) 3 = 4 := by
  intro e he q
  obtain ⟨hch, hr, hk, hcc, hne, hv, t1, t2⟩ := g_at hI.1 he
  have hnb : gBad B (gMk B x) e = false := by
    have key : ∀ d n, n + d = gR B → fnx (gBad B (gMk B x)) (gR B) n = none → ∀ j, n ≤ j → j < gR B → gBad B (gMk B x) j = false := by
      intro d
      induction d with
      | zero => intro n h1 _ j h2 h3; omega
      | succ d ih =>
        intro n h1 h2 j h3 h4
        cases hb : gBad B (gMk B x) n with
        | true => rw [fnx_self (by omega) hb] at h2; cases h2
        | false =>
          rw [fnx_next (by omega) hb] at h2
          by_cases z : j = n
          · rw [z]; exact hb
          · exact ih (n + 1) (by omega) h2 j (by omega) h4
    exact key (gR B) 0 (by omega) hn e (Nat.zero_le _) he
  have hw : ¬ 0 < gWhy B (gMk B x) e := fun z => by
    have := of_decide_eq_false hnb
    exact this ⟨q.1, z⟩
  unfold gWhy kWhy at hw
  have mch := q.2
  have hne2 : gCh B e ≠ gPar B e := fun z => by
    have := q.1.2.2
    rw [← z] at this
    exact this mch
  have r2 : kOf B ((e / 100 : Nat) : Int) 3 ≠ 2 := fun z => gMk_casc hI.1 hI.ok.2.2 hx hc he q.1 z mch
  have r34 := hk.2.2.2.1
  by_cases r0 : kOf B ((e / 100 : Nat) : Int) 3 = 0
  · rw [if_pos r0, if_neg hne2] at hw
    omega
  · rw [if_neg r0, if_neg (fun z => z mch)] at hw
    by_cases r1 : kOf B ((e / 100 : Nat) : Int) 3 = 1
    · rw [if_pos r1] at hw
      omega
    · omega
/-- only the values of the State now have changed -/
def cF7 (mi mi2 : mm_M) : Prop := ∀ a, a ≠ 7 → mi2 a = mi a
theorem cF7.rw {m1 m2 : mm_M} {B2 : Int → Int} (h : cF7 m1 m2) (hs : kSame B B2) (hW : kWr B) {p : Nat} (hp : (p : Int) < 20 * B 1) : cEr m2 B2 p = cEr m1 B p ∧ (cRw m2 B2 p ↔ cRw m1 B p) ∧ mA m2 63 = mA m1 63 := by
  have w1 := hW.2.1
  have e : cTr B2 (p / 20) = cTr B (p / 20) := by
    unfold cTr
    rw [hs.of (by omega)]
  unfold cEr cRw cRc cKy mA
  rw [e, h (1 + 1) (by omega), h (1 + 5) (by omega), h 63 (by decide)]
  exact ⟨rfl, Iff.rfl, rfl⟩
theorem sp16 (hS : cS m0 1 B) {mk : Int → Int} (hmk : mA m0 63 = mk) (hru : ∀ e, e < gR B → gHitU B mk e → kOf B ((e / 100 : Nat) : Int) 3 = 3 ∨ kOf B ((e / 100 : Nat) : Int) 3 = 4) {r : Nat} (hr : (r : Int) < B 1) (hF : cF7 m0 mi) (hC : cS mi 1 (kChg B mk (cPl m0 B (20 * r))))
    (hq : ∀ m2, cF7 m0 m2 → cS m2 1 (kChg B mk (cPl m0 B (20 * (r + 1)))) → Q none (mm_ms0 m2 h)) : mcl X 16 [.inr (some 61), .inr (some 1), .inl (r : Int)] (mm_ms0 mi h) Q := by
  have hW := hS.1.1
  have w1 := hW.2.1
  have hg := gR_i hS
  have ple : ∀ p : Nat, (p : Int) < 20 * B 1 → cPl m0 B p ≤ gR B := by
    intro p hp
    have := ((cW_tb hS (r := p / 20) (by omega)).1.le (p % 20)).1
    unfold cPl
    omega
  have sm : ∀ p : Nat, (p : Int) < 20 * B 1 → kSame B (kChg B mk (cPl m0 B p)) := fun p hp => (kChg_wr (mk := mk) hW _ (ple p hp)).2
  have s0 := sm (20 * r) (by omega)
  have st : ∀ e, e < gR B → ¬ gRow B e → kChg B mk (e + 1) = kChg B mk e := by
    intro e he hrow
    rw [kChg_succ]
    exact kChg1_no (fun z => hrow ((kChg_hit (mk := mk) hS.1 he).mp z).1.1)
  have hb1 : kChg B mk (cPl m0 B (20 * r)) 1 = B 1 := s0 1 (by decide)
  rw [c16, b16_0, sp41 hC (by rw [hb1]; omega) (by omega), mm_psh_i, b16_6, sp14 hC (by rw [hb1]; omega), mm_psh_i, b16_12, s0.of (by omega), s0.of (by omega), s0.of (by omega)]
  have key := mm_for (fun j => ∀ (m : mm_M) (o6 : Option mm_V), cF7 m0 m → cS m 1 (kChg B mk (cPl m0 B (20 * r + j))) → mwp X 16 17 [some (.inr (some 61)), some (.inr (some 1)), some (.inl (r : Int)), some (.inl (kOf B r 2)), some (.inl (if kOf B r 3 = 4 then kOf B r 5 else -1)), some (.inl (j : Int)), o6] [] (mm_ms0 m h) Q) 20 ?_ ?_ 0 (by omega)
  · exact key mi none hF hC
  · intro m o6 hF2 hC2
    rw [b16_17, if_neg (by omega), b16_77]
    exact hq m hF2 hC2
  · intro j hj ih m o6 hF2 hC2
    have hp : ((20 * r + j : Nat) : Int) < 20 * B 1 := by omega
    have hpr : (20 * r + j) / 20 = r := by omega
    have hpj : (20 * r + j) % 20 = j := by omega
    have hs2 := sm _ hp
    obtain ⟨f2, f3, f4⟩ := hF2.rw hs2 hW hp
    rw [hmk] at f4
    have nxt : ∀ (m2 : mm_M) (o6 : Option mm_V), cF7 m0 m2 → cS m2 1 (kChg B mk (cPl m0 B (20 * r + j + 1))) → mwp X 16 71 [some (.inr (some 61)), some (.inr (some 1)), some (.inl (r : Int)), some (.inl (kOf B r 2)), some (.inl (if kOf B r 3 = 4 then kOf B r 5 else -1)), some (.inl (j : Int)), o6] [] (mm_ms0 m2 h) Q := by
      intro m2 o6 g1 g2
      rw [b16_71, mm_wi (z := (j : Int) + 1) (by omega) (by omega)]
      exact ih m2 o6 g1 g2
    have hp2 : ((20 * r + j : Nat) : Int) < 20 * kChg B mk (cPl m0 B (20 * r + j)) 1 := by rw [hs2 1 (by decide)]; exact hp
    rw [b16_17, if_pos (by omega), b16_24, sp11 hC2 hp2 hpr.symm hpj.symm, mm_psh_i, b16_32, f2, f4]
    by_cases hj2 : cRw m0 B (20 * r + j)
    · obtain ⟨w2, w3⟩ := cW_row hS (f := kChg B mk) st hp hj2
      obtain ⟨v1, v2, v3, v4, v5, v6⟩ := cW_val hS hp hj2
      obtain ⟨g1, g2, g3, g4, g5, g6, g7, g8⟩ := g_at hW v5
      have hit := kChg_hit (mk := mk) hS.1 v5
      rw [kChg_succ] at w3
      rw [w2] at hit w3
      have hch : gCh (kChg B mk (cPl m0 B (20 * r + j))) (cEr m0 B (20 * r + j)) = gCh B (cEr m0 B (20 * r + j)) := hs2.ch hW v5
      by_cases q1 : gHit (kChg B mk (cPl m0 B (20 * r + j))) mk (cEr m0 B (20 * r + j))
      · rw [if_pos (show cRw m _ (20 * r + j) ∧ gHit (kChg B mk (cPl m0 B (20 * r + j))) mk (cEr m0 B (20 * r + j)) from ⟨f3.mpr hj2, q1⟩), if_neg (by decide), b16_35, sp43 hC2 hp2 hpr.symm hpj.symm, if_pos (f3.mpr hj2), mm_psh_i, b16_42, f2, hch, sp12 (by omega), mm_psh_i, b16_50, f4]
        by_cases q2 : mk (gCh B (cEr m0 B (20 * r + j))) = 0
        · have hu : gHitU (kChg B mk (cPl m0 B (20 * r + j))) mk (cEr m0 B (20 * r + j)) := ⟨q1, by rw [hch]; exact q2⟩
          have hr34 := hru _ v5 (hit.mp hu)
          rw [v4, hpr] at hr34
          rw [kChg1_yes hu, hch, v4, hpr, hs2.of (by omega)] at w3
          have hgn : gNew (kChg B mk (cPl m0 B (20 * r + j))) (cEr m0 B (20 * r + j)) = if kOf B (r : Int) 3 = 4 then kOf B r 5 else -1 := by
            unfold gNew
            rw [v4, hpr, hs2.of (by omega), hs2.of (by omega)]
            rcases hr34 with z | z
            · rw [if_pos z, if_neg (by omega)]
            · rw [if_neg (by omega), if_pos z]
          have hk := hW.2.2.1 (r : Int) (by omega) hr
          have hrow2 : 0 ≤ kCe (kChg B mk (cPl m0 B (20 * r + j))) (gCh B (cEr m0 B (20 * r + j))) := by rw [← hch]; exact q1.1
          rw [if_neg (show ¬ (gCh B (cEr m0 B (20 * r + j)) ≠ -1 ∧ mk (gCh B (cEr m0 B (20 * r + j))) ≠ 0) from fun z => z.2 q2), if_pos rfl, b16_53, Int.tdiv_eq_ediv_of_nonneg g1.1, Int.tmod_eq_emod_of_nonneg g1.1]
          refine sp56 hC2 (cIsR hC2.1 g1 hrow2) (by have := hk.2.2.1; omega) ?_ ?_
          · have := hk.2.2.2.2.2
            split <;> omega
          · intro m2 hC3 hF3
            rw [show 100 * (gCh B (cEr m0 B (20 * r + j)) / 100) + gCh B (cEr m0 B (20 * r + j)) % 100 = gCh B (cEr m0 B (20 * r + j)) by omega] at hC3
            rw [mm_psh_i, b16_70]
            refine nxt m2 _ (fun a ha => (hF3 a ha).trans (hF2 a ha)) ?_
            rw [w3, hgn]
            exact hC3
        · have nh : ¬ gHitU (kChg B mk (cPl m0 B (20 * r + j))) mk (cEr m0 B (20 * r + j)) := fun z => q2 (by rw [← hch]; exact z.2)
          rw [kChg1_no nh] at w3
          rw [if_pos (show gCh B (cEr m0 B (20 * r + j)) ≠ -1 ∧ mk (gCh B (cEr m0 B (20 * r + j))) ≠ 0 from ⟨by omega, q2⟩), if_neg (by decide)]
          exact nxt m _ hF2 (by rw [w3]; exact hC2)
      · have nh : ¬ gHitU (kChg B mk (cPl m0 B (20 * r + j))) mk (cEr m0 B (20 * r + j)) := fun z => q1 z.1
        rw [kChg1_no nh] at w3
        rw [if_neg (show ¬ (cRw m _ (20 * r + j) ∧ gHit (kChg B mk (cPl m0 B (20 * r + j))) mk (cEr m0 B (20 * r + j))) from fun z => q1 z.2), if_pos rfl]
        exact nxt m _ hF2 (by rw [w3]; exact hC2)
    · have w2 := cW_no hS (f := kChg B mk) st hp hj2
      rw [if_neg (show ¬ (cRw m _ (20 * r + j) ∧ gHit (kChg B mk (cPl m0 B (20 * r + j))) mk (cEr m0 B (20 * r + j))) from fun z => hj2 (f3.mp z.1)), if_pos rfl]
      exact nxt m _ hF2 (by rw [w2]; exact hC2)
end CPL
