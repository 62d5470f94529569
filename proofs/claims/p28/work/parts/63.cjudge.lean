-- THE CLASS judges and plans
section CJ
variable {X : Nat × (Nat → Int)} {mi m0 : mm_M} {h : mm_H} {Q : Option mm_V → mm_S → Prop} {B : Int → Int}
theorem sp11 (hS : cS mi 1 B) {r j p : Nat} (hp : (p : Int) < 20 * B 1) (hr : r = p / 20) (hj : j = p % 20) : mcl X 11 [.inr (some 61), .inr (some 1), .inl (r : Int), .inl (j : Int)] (mm_ms0 mi h) Q = Q (some (.inl (if cRw mi B p ∧ gHit B (mA mi 63) (cEr mi B p) then 1 else 0))) (mm_ms0 mi h) := by
  have hin : -1 ≤ (if cRw mi B p ∧ gVal B (cEr mi B p) ≠ -1 then gPar B (cEr mi B p) else -1) ∧ (if cRw mi B p ∧ gVal B (cEr mi B p) ≠ -1 then gPar B (cEr mi B p) else -1) < 600 := by
    by_cases q : cRw mi B p ∧ gVal B (cEr mi B p) ≠ -1
    · obtain ⟨v1, v2, v3, v4, v5, v6⟩ := cW_val hS hp q.1
      have := ((g_at hS.1.1 v5).2.2.2.2.2.1 v1).2 q.2
      rw [if_pos q]
      omega
    · rw [if_neg q]
      omega
  rw [c11, b11_0, sp44 hS hp hr hj, mm_psh_i, b11_7, sp12 hin, mm_psh_i, b11_10]
  have e : ((if cRw mi B p ∧ gVal B (cEr mi B p) ≠ -1 then gPar B (cEr mi B p) else -1) ≠ -1 ∧ mA mi 63 (if cRw mi B p ∧ gVal B (cEr mi B p) ≠ -1 then gPar B (cEr mi B p) else -1) ≠ 0) ↔ (cRw mi B p ∧ gHit B (mA mi 63) (cEr mi B p)) := by
    by_cases q : cRw mi B p ∧ gVal B (cEr mi B p) ≠ -1
    · obtain ⟨v1, v2, v3, v4, v5, v6⟩ := cW_val hS hp q.1
      have hpp := ((g_at hS.1.1 v5).2.2.2.2.2.1 v1).2 q.2
      rw [if_pos q]
      exact ⟨fun z => ⟨q.1, v1, q.2, z.2⟩, fun z => ⟨by omega, z.2.2.2⟩⟩
    · rw [if_neg q]
      exact ⟨fun z => absurd rfl z.1, fun z => absurd ⟨z.1, z.2.2.1⟩ q⟩
  by_cases q : cRw mi B p ∧ gHit B (mA mi 63) (cEr mi B p)
  · rw [if_pos q, if_pos (e.mpr q)]
    exact mm_andT (Or.inr rfl)
  · rw [if_neg q, if_neg (fun z => q (e.mp z))]
    exact mm_andT (Or.inl rfl)
theorem sp14 (hS : cS mi 1 B) {r : Int} (hr : 0 ≤ r ∧ r < B 1) : mcl X 14 [.inr (some 1), .inl r] (mm_ms0 mi h) Q = Q (some (.inl (if kOf B r 3 = 4 then kOf B r 5 else -1))) (mm_ms0 mi h) := by
  rw [c14, b14_0, sp41 hS hr (by omega), mm_psh_i, b14_6]
  by_cases q : kOf B r 3 = 4
  · rw [if_pos q, if_pos q, b14_10, b14_15, if_neg (by decide), b14_20, sp41 hS hr (by omega), mm_psh_i, b14_26, b14_30]
  · rw [if_neg q, if_neg q, b14_14, b14_15, if_pos rfl, b14_29, b14_30]
/-- the reason at a place that loses its parent -/
theorem sp13 (hS : cS mi 1 B) {r j p : Nat} (hp : (p : Int) < 20 * B 1) (hr : r = p / 20) (hj : j = p % 20) (hw : cRw mi B p) (hh : gHit B (mA mi 63) (cEr mi B p)) (hcl : kOf B ((p / 20 : Nat) : Int) 3 = 2 → mA mi 63 (gCh B (cEr mi B p)) ≠ 0) (hq : Q (some (.inl (gWhy B (mA mi 63) (cEr mi B p)))) (mm_ms0 mi h)) : mcl X 13 [.inr (some 61), .inr (some 1), .inl (r : Int), .inl (j : Int)] (mm_ms0 mi h) Q := by
  obtain ⟨v1, v2, v3, v4, v5, v6⟩ := cW_val hS hp hw
  obtain ⟨g1, g2, g3, g4, g5, g6, g7, g8⟩ := g_at hS.1.1 v5
  have hrB : (r : Int) < B 1 := by omega
  have hk := hS.1.1.2.2.1 (r : Int) (by omega) hrB
  have hpp := (g6 v1).2 hh.2.1
  have w0 := hS.1.1.1
  unfold gWhy kWhy at hq
  rw [v4] at hq
  rw [← hr] at hq hcl
  rw [c13, b13_0, sp43 hS hp hr hj, if_pos hw, mm_psh_i, b13_6, sp41 hS (by omega) (by omega), mm_psh_i, b13_14]
  by_cases r0 : kOf B (r : Int) 3 = 0
  · rw [if_pos r0] at hq
    rw [if_pos r0, b13_21, sp44 hS hp hr hj, if_pos (show cRw mi B p ∧ gVal B (cEr mi B p) ≠ -1 from ⟨hw, hh.2.1⟩), mm_psh_i, b13_27]
    by_cases q : gPar B (cEr mi B p) = gCh B (cEr mi B p)
    · rw [if_pos q.symm] at hq
      rw [if_pos q, b13_32, b13_37]
      exact hq
    · rw [if_neg (fun z => q z.symm)] at hq
      rw [if_neg q, b13_36, b13_37]
      exact hq
  · rw [if_neg r0] at hq
    rw [if_neg r0, b13_38, sp12 (by omega), mm_psh_i, b13_44]
    by_cases mc : mA mi 63 (gCh B (cEr mi B p)) ≠ 0
    · rw [if_pos mc] at hq
      rw [if_pos (show gCh B (cEr mi B p) ≠ -1 ∧ mA mi 63 (gCh B (cEr mi B p)) ≠ 0 from ⟨by omega, mc⟩), if_neg (by decide), b13_47]
      exact hq
    · rw [if_neg mc] at hq
      rw [if_neg (show ¬ (gCh B (cEr mi B p) ≠ -1 ∧ mA mi 63 (gCh B (cEr mi B p)) ≠ 0) from fun z => mc z.2), if_pos rfl, b13_49]
      by_cases r1 : kOf B (r : Int) 3 = 1
      · rw [if_pos r1] at hq
        rw [if_pos r1, b13_55]
        exact hq
      · have r2 : kOf B (r : Int) 3 ≠ 2 := fun z => mc (hcl z)
        have r34 := hk.2.2.2.1
        rw [if_neg r1] at hq
        rw [if_neg r1, b13_57, sp14 hS (by omega), mm_psh_i, b13_62]
        have nul : (kOf B (r : Int) 3 = 3 ∨ kOf B (r : Int) 5 = -1) → ∀ u : Int, mwp X 13 70 [some (.inr (some 61)), some (.inr (some 1)), some (.inl (r : Int)), some (.inl (j : Int)), some (.inl (gCh B (cEr mi B p))), some (.inl (kOf B (r : Int) 3)), some (.inl u), none, none] [] (mm_ms0 mi h) Q := by
          intro z u
          rw [if_pos z] at hq
          rw [b13_70, sp41 hS (by omega) (by omega), mm_psh_i, b13_76]
          by_cases q : kOf B (r : Int) 4 = 1
          · rw [if_pos q] at hq
            rw [if_pos q, b13_80, b13_85]
            exact hq
          · rw [if_neg q] at hq
            rw [if_neg q, b13_84, b13_85]
            exact hq
        by_cases r4 : kOf B (r : Int) 3 = 4
        · rw [if_pos r4]
          by_cases d1 : kOf B (r : Int) 5 = -1
          · rw [if_pos d1]
            exact nul (Or.inr d1) _
          · have hd := hk.2.2.2.2.2
            have hpr := hk.2.1
            rw [if_neg (fun z => z.elim (fun y => by omega) d1)] at hq
            rw [if_neg d1, b13_86, sp41 hS (by omega) (by omega), mm_psh_i, b13_92]
            have bad : (kCe B (100 * kOf B (r : Int) 1 + kOf B (r : Int) 5) < 0 ∨ mA mi 63 (100 * kOf B (r : Int) 1 + kOf B (r : Int) 5) ≠ 0) → mwp X 13 124 [some (.inr (some 61)), some (.inr (some 1)), some (.inl (r : Int)), some (.inl (j : Int)), some (.inl (gCh B (cEr mi B p))), some (.inl (kOf B (r : Int) 3)), some (.inl (kOf B (r : Int) 5)), some (.inl (kOf B (r : Int) 1)), none] [] (mm_ms0 mi h) Q := by
              intro z
              rw [if_pos z] at hq
              rw [b13_124, b13_125, if_pos rfl, b13_136, b13_137]
              exact hq
            refine sp39 hS ?_ ?_
            · intro i g1' g2' g3' g4' g5'
              rw [mm_psh_i, b13_102, if_neg (by omega), b13_106, sp89 (by omega) (by omega), mm_psh_i, b13_114, sp12 (by omega), mm_psh_i, b13_117]
              by_cases q : mA mi 63 (100 * kOf B (r : Int) 1 + kOf B (r : Int) 5) ≠ 0
              · rw [if_pos (show 100 * kOf B (r : Int) 1 + kOf B (r : Int) 5 ≠ -1 ∧ mA mi 63 (100 * kOf B (r : Int) 1 + kOf B (r : Int) 5) ≠ 0 from ⟨by omega, q⟩), if_neg (by decide)]
                exact bad (Or.inr q)
              · rw [if_neg (show ¬ (100 * kOf B (r : Int) 1 + kOf B (r : Int) 5 ≠ -1 ∧ mA mi 63 (100 * kOf B (r : Int) 1 + kOf B (r : Int) 5) ≠ 0) from fun z => q z.2), if_pos rfl, b13_120, b13_125, if_neg (by decide), b13_132, b13_137]
                rw [if_neg (fun z => z.elim (fun y => by have := g5'.2.2; omega) q)] at hq
                exact hq
            · intro g5'
              rw [mm_psh_i, b13_102, if_pos rfl]
              refine bad (Or.inl ?_)
              by_cases z : 0 ≤ kCe B (100 * kOf B (r : Int) 1 + kOf B (r : Int) 5)
              · exact absurd ⟨by omega, by omega, z⟩ g5'
              · omega
        · rw [if_neg r4, if_pos rfl]
          exact nul (Or.inl (by omega)) _
/-- nothing but what judging lays -/
def cFJ (mi mi2 : mm_M) : Prop := (∀ a, a ≠ 61 → mi2 a = mi a) ∧ mi2 61 1 = mi 61 1
theorem cFJ.rf {mi : mm_M} : cFJ mi mi := ⟨fun _ _ => rfl, rfl⟩
theorem cFJ.up {m1 m2 : mm_M} {k : Nat} {v : Int} (h : cFJ m1 m2) (hk : k ≠ 1) : cFJ m1 (mm_up m2 61 k v) := ⟨fun a ha => by rw [mm_up_ne ha]; exact h.1 a ha, by rw [mm_up_at2 (by omega)]; exact h.2⟩
theorem cFJ.S {m1 m2 : mm_M} (h : cFJ m1 m2) (hS : cS m1 1 B) : cS m2 1 B := hS.co (fun i hi => h.1 _ (by omega))
theorem cFJ.rw {m1 m2 : mm_M} (h : cFJ m1 m2) (p : Nat) : cPl m2 B p = cPl m1 B p ∧ cEr m2 B p = cEr m1 B p ∧ (cRw m2 B p ↔ cRw m1 B p) ∧ mA m2 63 = mA m1 63 := by
  unfold cPl cEr cRw cAt cRc cKy mA
  rw [h.1 (1 + 1) (by omega), h.1 (1 + 5) (by omega), h.1 63 (by decide)]
  exact ⟨rfl, rfl, Iff.rfl, rfl⟩
theorem sp10 (hS : cS mi 1 B) (hcl : ∀ e, e < gR B → gHit B (mA mi 63) e → kOf B ((e / 100 : Nat) : Int) 3 = 2 → mA mi 63 (gCh B e) ≠ 0)
    (h0 : fnx (gBad B (mA mi 63)) (gR B) 0 = none → ∀ m2, cFJ mi m2 → m2 61 2 = 0 → m2 61 3 = -9 → m2 61 4 = cnt (gR B) (fun e => decide (gHitU B (mA mi 63) e)) → Q none (mm_ms0 m2 h))
    (hs : ∀ e, e < gR B → gBad B (mA mi 63) e = true → fnx (gBad B (mA mi 63)) (gR B) 0 = some e → ∀ m2, cFJ mi m2 → m2 61 2 = gWhy B (mA mi 63) e → m2 61 3 = gCh B e → Q none (mm_ms0 m2 h)) : mcl X 10 [.inr (some 61), .inr (some 1)] (mm_ms0 mi h) Q := by
  have w1 := hS.1.1.2.1
  have hg := gR_i hS
  have ce : cPl mi B (20 * B 1).toNat = gR B := by
    unfold cPl
    rw [show (20 * B 1).toNat % 20 = 0 by omega, show cAt mi 1 (cTr B ((20 * B 1).toNat / 20)) 0 = 0 from rfl]
    omega
  have st1 : ∀ e, e < gR B → ¬ gRow B e → fnx (gBad B (mA mi 63)) (gR B) (e + 1) = fnx (gBad B (mA mi 63)) (gR B) e := by
    intro e he hrow
    refine (fnx_next he ?_).symm
    unfold gBad
    exact decide_eq_false (fun z => hrow z.1.1)
  have st2 : ∀ e, e < gR B → ¬ gRow B e → cnt (e + 1) (fun e => decide (gHitU B (mA mi 63) e)) = cnt e (fun e => decide (gHitU B (mA mi 63) e)) := by
    intro e he hrow
    rw [cnt_succ, if_neg (by rw [decide_eq_true_eq]; exact fun z => hrow z.1.1), Int.add_zero]
  have all : ∀ p : Nat, p ≤ (20 * B 1).toNat → ∀ (m : mm_M) (o3 o4 : Option mm_V), cFJ mi m → m 61 2 = 0 → m 61 3 = -9 → m 61 4 = cnt (cPl mi B p) (fun e => decide (gHitU B (mA mi 63) e)) → fnx (gBad B (mA mi 63)) (gR B) (cPl mi B p) = fnx (gBad B (mA mi 63)) (gR B) 0 →
      ((p : Int) < 20 * B 1 → mwp X 10 28 [some (.inr (some 61)), some (.inr (some 1)), some (.inl ((p / 20 : Nat) : Int)), some (.inl ((p % 20 : Nat) : Int)), o4] [] (mm_ms0 m h) Q) ∧ (p = (20 * B 1).toNat → mwp X 10 18 [some (.inr (some 61)), some (.inr (some 1)), some (.inl (B 1)), o3, o4] [] (mm_ms0 m h) Q) := by
    refine mm_for (fun p => ∀ (m : mm_M) (o3 o4 : Option mm_V), cFJ mi m → m 61 2 = 0 → m 61 3 = -9 → m 61 4 = cnt (cPl mi B p) (fun e => decide (gHitU B (mA mi 63) e)) → fnx (gBad B (mA mi 63)) (gR B) (cPl mi B p) = fnx (gBad B (mA mi 63)) (gR B) 0 →
      ((p : Int) < 20 * B 1 → mwp X 10 28 [some (.inr (some 61)), some (.inr (some 1)), some (.inl ((p / 20 : Nat) : Int)), some (.inl ((p % 20 : Nat) : Int)), o4] [] (mm_ms0 m h) Q) ∧ (p = (20 * B 1).toNat → mwp X 10 18 [some (.inr (some 61)), some (.inr (some 1)), some (.inl (B 1)), o3, o4] [] (mm_ms0 m h) Q)) (20 * B 1).toNat ?_ ?_
    · intro m o3 o4 hF e2 e3 e4 ef
      refine ⟨fun z => by omega, fun _ => ?_⟩
      rw [ce] at e4 ef
      rw [b10_18, (hF.S hS).2.1.2.1, if_neg (by omega), b10_111]
      exact h0 (by rw [← ef]; exact fnx_end (Nat.le_refl _)) m hF e2 e3 e4
    · intro p hpn ih m o3 o4 hF e2 e3 e4 ef
      refine ⟨fun hp => ?_, fun z => by omega⟩
      have hr : ((p / 20 : Nat) : Int) < B 1 := by omega
      have hSm := hF.S hS
      obtain ⟨-, f2, f3, f4⟩ := hF.rw (B := B) p
      have nxt : ∀ (m2 : mm_M) (o4 : Option mm_V), cFJ mi m2 → m2 61 2 = 0 → m2 61 3 = -9 → m2 61 4 = cnt (cPl mi B (p + 1)) (fun e => decide (gHitU B (mA mi 63) e)) → fnx (gBad B (mA mi 63)) (gR B) (cPl mi B (p + 1)) = fnx (gBad B (mA mi 63)) (gR B) 0 → mwp X 10 99 [some (.inr (some 61)), some (.inr (some 1)), some (.inl ((p / 20 : Nat) : Int)), some (.inl ((p % 20 : Nat) : Int)), o4] [] (mm_ms0 m2 h) Q := by
        intro m2 o4 hF2 g2 g3 g4 gf
        have nx := fun o3 => ih m2 o3 o4 hF2 g2 g3 g4 gf
        rw [b10_99, mm_wi (z := ((p % 20 : Nat) : Int) + 1) (by omega) (by omega)]
        by_cases q : p % 20 + 1 < 20
        · have := (nx none).1 (by omega)
          rw [show (p + 1) / 20 = p / 20 by omega, show (p + 1) % 20 = p % 20 + 1 by omega] at this
          exact this
        · rw [b10_28, if_neg (by omega), b10_105, mm_wi (z := ((p / 20 : Nat) : Int) + 1) (by omega) (by omega)]
          by_cases q2 : p + 1 = (20 * B 1).toNat
          · have := (nx (some (.inl (((p % 20 : Nat) : Int) + 1)))).2 q2
            rw [show ((p / 20 : Nat) : Int) + 1 = B 1 by omega]
            exact this
          · have := (nx none).1 (by omega)
            rw [show (p + 1) / 20 = p / 20 + 1 by omega, show (p + 1) % 20 = 0 by omega] at this
            rw [b10_18, (hF2.S hS).2.1.2.1, if_pos (by omega), b10_26]
            exact this
      rw [b10_28, if_pos (by omega), b10_34, sp11 hSm hp rfl rfl, mm_psh_i, b10_41, f2, f4]
      by_cases hj : cRw mi B p
      · obtain ⟨w2, w3⟩ := cW_row hS (f := fun e => fnx (gBad B (mA mi 63)) (gR B) e) st1 hp hj
        obtain ⟨x2, x3⟩ := cW_row hS (f := fun e => cnt e (fun e => decide (gHitU B (mA mi 63) e))) st2 hp hj
        obtain ⟨v1, v2, v3, v4, v5, v6⟩ := cW_val hS hp hj
        obtain ⟨g1, g2, g3, g4, g5, g6, g7, g8⟩ := g_at hS.1.1 v5
        have hjm := f3.mpr hj
        rw [cnt_succ, x2] at x3
        have hcl1 := cnt_nn (cPl mi B p) (fun e => decide (gHitU B (mA mi 63) e))
        have hcl2 := cnt_le (cPl mi B p) (fun e => decide (gHitU B (mA mi 63) e))
        have hpl : cPl mi B p ≤ 1300 := by
          have := ((cW_tb hS hr).1.le (p % 20)).1
          unfold cPl
          omega
        by_cases q1 : gHit B (mA mi 63) (cEr mi B p)
        · rw [if_pos (show cRw m B p ∧ gHit B (mA mi 63) (cEr mi B p) from ⟨hjm, q1⟩), if_neg (by decide), b10_47, sp43 hSm hp rfl rfl, if_pos hjm, mm_psh_i, b10_53, f2]
          refine sp13 hSm hp rfl rfl hjm (by rw [f4, f2]; exact q1) (by rw [f4, f2, ← v4]; exact hcl _ v5 q1) ?_
          rw [f4, f2, mm_psh_i, b10_63]
          by_cases q2 : gWhy B (mA mi 63) (cEr mi B p) = 0
          · have nb : gBad B (mA mi 63) (cEr mi B p) = false := decide_eq_false (fun z => by have := z.2; omega)
            have ef2 : fnx (gBad B (mA mi 63)) (gR B) (cPl mi B (p + 1)) = fnx (gBad B (mA mi 63)) (gR B) 0 := by rw [w3, ← fnx_next v5 nb, w2, ef]
            have hF2 : cFJ mi (mm_up m 61 2 (gWhy B (mA mi 63) (cEr mi B p))) := hF.up (by decide)
            have hS2 := hF2.S hS
            rw [if_pos q2, b10_80, sp12 (by omega), mm_psh_i, b10_86, (hF2.rw (B := B) p).2.2.2]
            have y2 : mm_up m 61 2 (gWhy B (mA mi 63) (cEr mi B p)) 61 2 = 0 := by rw [mm_up_at]; exact q2
            have y3 : mm_up m 61 2 (gWhy B (mA mi 63) (cEr mi B p)) 61 3 = -9 := by rw [mm_up_at2 (by decide)]; exact e3
            have y4 : mm_up m 61 2 (gWhy B (mA mi 63) (cEr mi B p)) 61 4 = cnt (cPl mi B p) (fun e => decide (gHitU B (mA mi 63) e)) := by rw [mm_up_at2 (by decide)]; exact e4
            generalize mm_up m 61 2 (gWhy B (mA mi 63) (cEr mi B p)) = m2 at hF2 hS2 y2 y3 y4 ⊢
            by_cases q3 : mA mi 63 (gCh B (cEr mi B p)) = 0
            · have hit : gHitU B (mA mi 63) (cEr mi B p) := ⟨q1, q3⟩
              rw [if_pos (decide_eq_true hit)] at x3
              rw [if_neg (show ¬ (gCh B (cEr mi B p) ≠ -1 ∧ mA mi 63 (gCh B (cEr mi B p)) ≠ 0) from fun z => z.2 q3), if_pos rfl, b10_89, y4, mm_wi (by omega) (by omega)]
              refine nxt _ _ (hF2.up (by decide)) (by rw [mm_up_at2 (by decide)]; exact y2) (by rw [mm_up_at2 (by decide)]; exact y3) ?_ ef2
              rw [mm_up_at, x3]
            · have hit : ¬ gHitU B (mA mi 63) (cEr mi B p) := fun z => q3 z.2
              rw [if_neg (by rw [decide_eq_true_eq]; exact hit), Int.add_zero] at x3
              rw [if_pos (show gCh B (cEr mi B p) ≠ -1 ∧ mA mi 63 (gCh B (cEr mi B p)) ≠ 0 from ⟨by omega, q3⟩), if_neg (by decide)]
              exact nxt _ _ hF2 y2 y3 (by rw [y4, x3]) ef2
          · have hpos : 0 < gWhy B (mA mi 63) (cEr mi B p) := by
              have : 0 ≤ gWhy B (mA mi 63) (cEr mi B p) := by
                unfold gWhy kWhy
                repeat' split
                all_goals decide
              omega
            have bad : gBad B (mA mi 63) (cEr mi B p) = true := decide_eq_true ⟨q1, hpos⟩
            rw [if_neg q2, b10_73]
            refine hs (cEr mi B p) v5 bad ?_ _ ((hF.up (by decide)).up (by decide)) ?_ ?_
            · rw [← ef, ← w2]
              exact fnx_self v5 bad
            · rw [mm_up_at2 (by decide), mm_up_at]
            · rw [mm_up_at]
        · have nb : gBad B (mA mi 63) (cEr mi B p) = false := decide_eq_false (fun z => q1 z.1)
          rw [if_neg (by rw [decide_eq_true_eq]; exact fun z => q1 z.1), Int.add_zero] at x3
          rw [if_neg (show ¬ (cRw m B p ∧ gHit B (mA mi 63) (cEr mi B p)) from fun z => q1 z.2), if_pos rfl, b10_44]
          exact nxt m _ hF e2 e3 (by rw [e4, x3]) (by rw [w3, ← fnx_next v5 nb, w2, ef])
      · have w2 := cW_no hS (f := fun e => fnx (gBad B (mA mi 63)) (gR B) e) st1 hp hj
        have x2 := cW_no hS (f := fun e => cnt e (fun e => decide (gHitU B (mA mi 63) e))) st2 hp hj
        rw [if_neg (show ¬ (cRw m B p ∧ gHit B (mA mi 63) (cEr mi B p)) from fun z => hj (f3.mp z.1)), if_pos rfl, b10_44]
        exact nxt m _ hF e2 e3 (by rw [e4, x2]) (by rw [w2, ef])
  rw [c10, b10_0]
  have hF0 : cFJ mi (mm_up (mm_up (mm_up mi 61 2 0) 61 3 (-9)) 61 4 0) := ((cFJ.rf.up (by decide)).up (by decide)).up (by decide)
  have y2 : mm_up (mm_up (mm_up mi 61 2 0) 61 3 (-9)) 61 4 0 61 2 = 0 := by rw [mm_up_at2 (by decide), mm_up_at2 (by decide), mm_up_at]
  have y3 : mm_up (mm_up (mm_up mi 61 2 0) 61 3 (-9)) 61 4 0 61 3 = -9 := by rw [mm_up_at2 (by decide), mm_up_at]
  have y4 : mm_up (mm_up (mm_up mi 61 2 0) 61 3 (-9)) 61 4 0 61 4 = 0 := by rw [mm_up_at]
  generalize mm_up (mm_up (mm_up mi 61 2 0) 61 3 (-9)) 61 4 0 = m at hF0 y2 y3 y4 ⊢
  have z0 : cPl mi B 0 = 0 := rfl
  have fin := fun o3 o4 => all 0 (Nat.zero_le _) m o3 o4 hF0 y2 y3 (by rw [y4, z0]; rfl) (by rw [z0])
  by_cases q : B 1 = 0
  · have := (fin none none).2 (by omega)
    rw [q] at this
    exact this
  · rw [b10_18, (hF0.S hS).2.1.2.1, if_pos (by omega), b10_26]
    exact (fin none none).1 (by omega)
end CJ
