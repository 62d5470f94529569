-- THE CLASS: counts; checks against what the reference tells
theorem cnt_steady {p : Nat → Bool} {lo hi : Nat} (h : lo ≤ hi) (hp : ∀ k, lo ≤ k → k < hi → p k = false) : cnt hi p = cnt lo p :=
  steady (f := fun n => cnt n p) h (fun e h1 h2 => by
    show cnt (e + 1) p = cnt e p
    rw [cnt_succ, hp e h1 h2, if_neg (by decide)]
    omega)
theorem kSame.roN {B B2 : Int → Int} (hs : kSame B B2) (t c : Int) : ∀ n : Nat, n ≤ 12 → kRefN B2 t c n = kRefN B t c n := by
  intro n
  induction n with
  | zero => intro _; rfl
  | succ n ih =>
    intro hn
    unfold kRefN
    rw [ih (by omega), hs.of (by omega), hs.of (by omega)]
theorem kSame.ro {B B2 : Int → Int} (hs : kSame B B2) (h1 : B 1 ≤ 12) (t c : Int) : kRo B2 t c = kRo B t c := by
  unfold kRo
  rw [hs 1 (by decide)]
  exact hs.roN t c _ (by omega)
theorem kSame.cols {B B2 : Int → Int} (hs : kSame B B2) (h1 : B 1 ≤ 12) (t : Int) : kCols B2 t = kCols B t := by
  unfold kCols
  rw [hs 1 (by decide)]
  exact cnt_co fun e he => by rw [hs.of (by omega)]
section CY
variable {X : Nat × (Nat → Int)} {mi : mm_M} {h : mm_H} {Q : Option mm_V → mm_S → Prop} {B : Int → Int}
theorem cRowV (hS : cS mi 1 B) {t j : Nat} (ht : t < 6) (hj : (j : Int) < cRc mi 1 t) {c : Int} (hc : c = 0 ∨ c = 1) : kV B (100 * t + cKy mi 1 t j) c = cVl mi 1 t j c.toNat := by
  obtain ⟨r1, r2, r3, r4⟩ := cRow hS ht hj
  rcases hc with rfl | rfl
  · exact r2
  · exact r3 1 (by decide)
theorem sp45 (hS : cS mi 1 B) (hq : Q (some (.inl (kAll B))) (mm_ms0 mi h)) : mcl X 45 [.inr (some 1)] (mm_ms0 mi h) Q := by
  have w0 := hS.1.1.1
  rw [c45, b45_0]
  refine mm_for (fun n => mwp X 45 4 [some (.inr (some 1)), some (.inl (kAllN B n)), some (.inl (n : Int))] [] (mm_ms0 mi h) Q) (B 0).toNat ?_ ?_ 0 (Nat.zero_le _)
  · rw [b45_4, hS.2.1.1, if_neg (by omega), b45_27]
    exact hq
  · intro n hn ih
    have e1 := kAllN_in B n
    have e2 := kAllN_in B (n + 1)
    have e3 : mi 2 (n : Int).toNat = kRows B n := by
      rw [(hS.2.2.2.2 n (by omega)).rows]
      rfl
    rw [b45_4, hS.2.1.1, if_pos (by omega), b45_12]
    refine ⟨by omega, ?_⟩
    rw [b45_19, e3]
    unfold kAllN at ih e2
    rw [mm_wi (by omega) (by omega), mm_wi (by omega) (by omega)]
    exact ih
/-- how many rows of a reference's child table have this value -/
def cHow (B : Int → Int) (r v : Int) (k : Nat) : Bool := decide (0 ≤ kCe B (100 * kOf B r 0 + k) ∧ kV B (100 * kOf B r 0 + k) (kOf B r 2) = v)
theorem sp47 (hS : cS mi 1 B) {r v : Int} (hr : 0 ≤ r ∧ r < B 1) (hq : Q (some (.inl (cnt 100 (cHow B r v)))) (mm_ms0 mi h)) : mcl X 47 [.inr (some 1), .inl r, .inl v] (mm_ms0 mi h) Q := by
  obtain ⟨hT, e1, e2⟩ := cW_tb hS (r := r.toNat) (by omega)
  rw [show ((r.toNat : Nat) : Int) = r by omega] at e1
  generalize cTr B r.toNat = t at hT e1 e2
  have hcol := (hS.1.1.2.2.1 r hr.1 hr.2).2.2.1
  have hrc := hT.1
  rw [c47, b47_0, sp41 hS hr (by omega), mm_psh_i, b47_8, sp41 hS hr (by omega), mm_psh_i, b47_16, sp41 hS hr (by omega), mm_psh_i, b47_33, mm_andT (by omega), b47_34]
  have e3 : mi 2 (kOf B r 0).toNat = cRc mi 1 t := by
    rw [← e1]
    rfl
  rw [e3, mm_wi (z := kOf B r 0 * 20) (by omega) (by omega), mm_wi (z := kOf B r 0 * 20 + cRc mi 1 t) (by omega) (by omega), ← e1]
  have hle : ∀ n, 0 ≤ cnt n (cHow B r v) ∧ cnt n (cHow B r v) ≤ n := fun n => ⟨cnt_nn _ _, cnt_le _ _⟩
  have nok : ∀ k : Nat, kCe B (100 * t + k) < 0 → cHow B r v k = false := by
    intro k hk
    unfold cHow
    refine decide_eq_false (fun z => ?_)
    rw [← e1] at z
    omega
  have key := mm_for (fun n => mwp X 47 41 [some (.inr (some 1)), some (.inl r), some (.inl v), some (.inl (cnt (cAt mi 1 t n) (cHow B r v))), some (.inl (kOf B r 2)), some (.inl ((t : Int) * 20)), some (.inl ((t : Int) * 20 + cRc mi 1 t)), some (.inl ((t : Int) * 20 + n))] [] (mm_ms0 mi h) Q) (cRc mi 1 t).toNat ?_ ?_ 0 (Nat.zero_le _)
  · rw [show (t : Int) * 20 + ((0 : Nat) : Int) = (t : Int) * 20 by omega] at key
    exact key
  · rw [b47_41, if_neg (by omega), b47_69]
    rw [← cnt_steady (lo := cAt mi 1 t (cRc mi 1 t).toNat) (hT.le _).1 (fun k h1 h2 => nok k (hT.gap h1 h2 (fun z => by omega)))]
    exact hq
  · intro n hn ih
    have hj : (n : Int) < cRc mi 1 t := by omega
    obtain ⟨k1, k2, k3, k4⟩ := hT.2.2.1 n hj
    have hle2 := (hT.le n).2 hj
    have hv := cRowV hS e2 hj (c := kOf B r 2) (by omega)
    have hg := cnt_steady (p := cHow B r v) (lo := cAt mi 1 t n) (hi := (cKy mi 1 t n).toNat) (by omega) (fun k h1 h2 => nok k (hT.gap h1 (by omega) (fun z => by omega)))
    have hn1 : cAt mi 1 t (n + 1) = (cKy mi 1 t n).toNat + 1 := by
      unfold cAt
      rw [if_neg (by omega), if_pos (by omega)]
      rfl
    rw [hn1, cnt_succ, hg] at ih
    have hb := hle (cAt mi 1 t n)
    have hb2 := (hT.le n).1
    rw [b47_41, if_pos (by omega), b47_48, show (t : Int) * 20 + n = 20 * (t : Int) + n by omega, sp40 e2 (by omega) (by omega), mm_psh_i, b47_56, ← hv]
    have hp : cHow B r v (cKy mi 1 t n).toNat = true ↔ kV B (100 * t + cKy mi 1 t n) (kOf B r 2) = v := by
      unfold cHow
      rw [decide_eq_true_eq, ← e1, show (((cKy mi 1 t n).toNat : Nat) : Int) = cKy mi 1 t n by omega]
      exact ⟨fun z => z.2, fun z => ⟨by omega, z⟩⟩
    by_cases q : kV B (100 * t + cKy mi 1 t n) (kOf B r 2) = v
    · rw [if_pos q, b47_60, b47_63, mm_wi (by omega) (by omega), mm_wi (by omega) (by omega)]
      rw [if_pos (hp.mpr q)] at ih
      rw [show 20 * (t : Int) + n + 1 = (t : Int) * 20 + ((n + 1 : Nat) : Int) by omega]
      exact ih
    · rw [if_neg q, b47_63, mm_wi (z := 20 * (t : Int) + n + 1) (by omega) (by omega)]
      rw [if_neg (fun z => q (hp.mp z)), Int.add_zero] at ih
      rw [show 20 * (t : Int) + n + 1 = (t : Int) * 20 + ((n + 1 : Nat) : Int) by omega]
      exact ih
theorem sp46 (hS : cS mi 1 B) (hq : Q (some (.inl (kNulls B))) (mm_ms0 mi h)) : mcl X 46 [.inr (some 1)] (mm_ms0 mi h) Q := by
  have w1 := hS.1.1.2.1
  rw [c46, b46_0]
  refine mm_for (fun n => mwp X 46 4 [some (.inr (some 1)), some (.inl (cnt (100 * n) (fun e => decide (gRow B e ∧ gVal B e = -1)))), some (.inl (n : Int))] [] (mm_ms0 mi h) Q) (B 1).toNat ?_ ?_ 0 (Nat.zero_le _)
  · rw [b46_4, hS.2.1.2.1, if_neg (by omega), b46_27]
    exact hq
  · intro n hn ih
    have hl1 := cnt_nn (100 * n) (fun e => decide (gRow B e ∧ gVal B e = -1))
    have hl2 := cnt_le (100 * n) (fun e => decide (gRow B e ∧ gVal B e = -1))
    have hl3 := cnt_nn 100 (cHow B n (-1))
    have hl4 := cnt_le 100 (cHow B n (-1))
    have hs : cnt (100 * (n + 1)) (fun e => decide (gRow B e ∧ gVal B e = -1)) = cnt (100 * n) (fun e => decide (gRow B e ∧ gVal B e = -1)) + cnt 100 (cHow B n (-1)) := by
      rw [show 100 * (n + 1) = 100 * n + 100 by omega, cnt_add]
      congr 1
      refine cnt_co fun k hk => ?_
      show decide (0 ≤ kCe B (gCh B (100 * n + k)) ∧ kV B (gCh B (100 * n + k)) (kOf B (((100 * n + k) / 100 : Nat) : Int) 2) = -1) = cHow B n (-1) k
      rw [gCh_at hk, show (100 * n + k) / 100 = n by omega]
      rfl
    rw [b46_4, hS.2.1.2.1, if_pos (by omega), b46_12]
    refine sp47 hS ⟨by omega, by omega⟩ ?_
    rw [mm_psh_i, b46_19, mm_wi (by omega) (by omega), mm_wi (by omega) (by omega), ← hs]
    exact ih
/-- an insert that goes through -/
def cInsOk (B : Int → Int) (t k v0 v1 : Int) : Prop := (0 ≤ t ∧ t < B 0) ∧ ¬ kOutR B t k v0 v1 ∧ kNoRow B t k ∧ kRows B t < 20 ∧ ¬ kMiss B t v0 v1 ∧ ¬ kNoP (kInsB B (100 * t + k) v0 v1) t v0 v1
theorem kIns_ok {t k v0 v1 : Int} (hk : cInsOk B t k v0 v1) : kIns B t k v0 v1 = (kRows (kInsB B (100 * t + k) v0 v1) t, bUp (kInsB B (100 * t + k) v0 v1) 2 (mm_w (B 2 + 1))) := by
  obtain ⟨h1, h2, h3, h4, h5, h6⟩ := hk
  unfold kIns
  rw [if_pos h1, if_neg h2, if_pos h3, if_neg (by omega), if_neg h5, if_neg h6]
theorem cFit_iff {t c v : Int} (ht : 0 ≤ t ∧ t < B 0) (hc : 0 ≤ c) : cFit B t c v ↔ (-1 ≤ v ∧ v ≤ if c < kCols B t then 99 else -1) := by
  show (v = -1 ∨ ((0 ≤ t ∧ t < B 0) ∧ 0 ≤ c ∧ c < kCols B t) ∧ 0 ≤ v ∧ v ≤ 99) ↔ _
  split <;> omega
theorem cNoP_iff (hS : cS mi 1 B) {t k c v v0 v1 : Int} (ht : 0 ≤ t ∧ t < B 0) (hk : 0 ≤ k ∧ k ≤ 99) (hv0 : -1 ≤ v0) (hv1 : -1 ≤ v1) (hf : cFit B t c v) : cNoP B t k c v ↔ (v ≠ -1 ∧ ¬ kHasP (kInsB B (100 * t + k) v0 v1) t c v) := by
  have w1 := hS.1.1.2.1
  have w0 := hS.1.1.1
  have hs : kSame B (kInsB B (100 * t + k) v0 v1) := kSame.up (by omega)
  have hro : 0 ≤ kRo B t c ∧ kRo B t c < 12 := by
    have := kRefN_in B t c (B 1).toNat
    unfold kRo
    omega
  have hp : kHasP (kInsB B (100 * t + k) v0 v1) t c v = kIsRow (kInsB B (100 * t + k) v0 v1) (kOf B (kRo B t c) 1) v := by
    show kIsRow _ (kOf _ (kRo _ t c) 1) v = _
    rw [hs.ro w1.2, hs.of (by omega)]
  rw [hp]
  show (v ≠ -1 ∧ cHasC B t c ∧ ¬ (kOf B (kRo B t c) 1 = t ∧ v = k) ∧ ¬ kIsRow B (kOf B (kRo B t c) 1) v) ↔ _
  generalize kOf B (kRo B t c) 1 = p
  have hce : kCe (kInsB B (100 * t + k) v0 v1) (100 * p + v) = if 100 * p + v = 100 * t + k then 101 * (v0 + 1) + v1 + 1 else kCe B (100 * p + v) := by
    show bUp B (198 + (100 * t + k)) (101 * (v0 + 1) + v1 + 1) (198 + (100 * p + v)) = _
    unfold bUp
    by_cases q : 100 * p + v = 100 * t + k
    · rw [if_pos q, if_pos (by omega)]
    · rw [if_neg q, if_neg (by omega)]
      rfl
  have hz : kInsB B (100 * t + k) v0 v1 0 = B 0 := hs 0 (by decide)
  show (v ≠ -1 ∧ cHasC B t c ∧ ¬ (p = t ∧ v = k) ∧ ¬ kIsRow B p v) ↔ (v ≠ -1 ∧ ¬ ((0 ≤ p ∧ p < kInsB B (100 * t + k) v0 v1 0) ∧ (0 ≤ v ∧ v < 100) ∧ 0 ≤ kCe (kInsB B (100 * t + k) v0 v1) (100 * p + v)))
  rw [hce, hz]
  constructor
  · rintro ⟨a1, a2, a3, a4⟩
    refine ⟨a1, ?_⟩
    rintro ⟨b1, b2, b3⟩
    by_cases q : 100 * p + v = 100 * t + k
    · exact a3 ⟨by omega, by omega⟩
    · rw [if_neg q] at b3
      exact a4 ⟨b1, b2, b3⟩
  · rintro ⟨a1, a2⟩
    rcases hf with hf | ⟨hf, hg⟩
    · exact absurd hf a1
    · refine ⟨a1, hf, ?_, ?_⟩
      · rintro ⟨rfl, rfl⟩
        exact a2 ⟨ht, by omega, by rw [if_pos rfl]; omega⟩
      · rintro ⟨b1, b2, b3⟩
        refine a2 ⟨b1, b2, ?_⟩
        split
        · omega
        · exact b3
theorem sp50 (hS : cS mi 1 B) {t k v0 v1 : Int} (h1 : (kIns B t k v0 v1).1 < -1 → Q (some (.inl (kIns B t k v0 v1).1)) (mm_ms0 mi h)) (h0 : cInsOk B t k v0 v1 → Q (some (.inl 0)) (mm_ms0 mi h)) : mcl X 50 [.inr (some 1), .inl t, .inl k, .inl v0, .inl v1] (mm_ms0 mi h) Q := by
  have w0 := hS.1.1.1
  rw [c50, b50_0, sp35 hS, mm_psh_i, b50_5, mm_ite0]
  by_cases q1 : 0 ≤ t ∧ t < B 0
  · have htt : ((t.toNat : Nat) : Int) = t := by omega
    have hrows := cRows hS (t := t) (by omega)
    have hmost := hS.1.2.2.2.2.1.1 t.toNat (by omega)
    rw [htt] at hmost
    have bad3 : kOutR B t k v0 v1 → mwp X 50 39 [some (.inr (some 1)), some (.inl t), some (.inl k), some (.inl v0), some (.inl v1)] [] (mm_ms0 mi h) Q := by
      intro hn
      have e : kIns B t k v0 v1 = (-3, B) := by unfold kIns; rw [if_pos q1, if_pos hn]
      rw [e] at h1
      rw [b50_39]
      exact h1 (by dsimp only; decide)
    have f0 := cFit_iff (v := v0) (c := 0) q1 (by decide)
    have f1 := cFit_iff (v := v1) (c := 1) q1 (by decide)
    rw [if_pos q1, b50_11, sp87, mm_psh_i, b50_15, mm_ite0]
    by_cases q2 : 0 ≤ k ∧ k ≤ 99
    · rw [if_pos q2, b50_18, sp52 hS, mm_psh_i, b50_25, mm_ite0]
      by_cases q3 : cFit B t 0 v0
      · rw [if_pos q3, b50_28, sp52 hS, mm_psh_i, b50_36, mm_ite0]
        by_cases q4 : cFit B t 1 v1
        · have n3 : ¬ kOutR B t k v0 v1 := fun z => z ⟨q2, f0.mp q3, f1.mp q4⟩
          have hv0 := (f0.mp q3).1
          have hv1 := (f1.mp q4).1
          rw [if_pos q4, b50_42]
          refine sp38 hS ?_
          rw [mm_psh_i, b50_48, mm_ite0]
          by_cases q5 : kIsRow B t k
          · have e : kIns B t k v0 v1 = (-5, B) := by unfold kIns; rw [if_pos q1, if_neg n3, if_neg (fun z => z q5)]
            rw [e] at h1
            rw [if_pos q5, b50_51]
            exact h1 (by dsimp only; decide)
          · rw [if_neg q5, b50_54, mm_andT (by omega), b50_60, show mi 2 t.toNat = cRc mi 1 t.toNat from rfl, ← hrows]
            by_cases q6 : kRows B t < 20
            · rw [if_pos q6, b50_68, sp53 hS, mm_psh_i, b50_75]
              have m0 : cMis B t 0 v0 ↔ (v0 = -1 ∧ kNeed B t 0) := ⟨fun z => ⟨z.1, z.2.1.2.2, z.2.2⟩, fun z => ⟨z.1, ⟨q1, by decide, z.2.1⟩, z.2.2⟩⟩
              have m1 : cMis B t 1 v1 ↔ (v1 = -1 ∧ kNeed B t 1) := ⟨fun z => ⟨z.1, z.2.1.2.2, z.2.2⟩, fun z => ⟨z.1, ⟨q1, by decide, z.2.1⟩, z.2.2⟩⟩
              have bad6 : kMiss B t v0 v1 → mwp X 50 89 [some (.inr (some 1)), some (.inl t), some (.inl k), some (.inl v0), some (.inl v1)] [] (mm_ms0 mi h) Q := by
                intro hn
                have e : kIns B t k v0 v1 = (-6, B) := by unfold kIns; rw [if_pos q1, if_neg n3, if_pos (show kNoRow B t k from q5), if_neg (by omega), if_pos hn]
                rw [e] at h1
                rw [b50_89]
                exact h1 (by dsimp only; decide)
              rw [mm_ite0]
              by_cases q7 : cMis B t 0 v0
              · rw [if_pos q7]
                exact bad6 (Or.inl (m0.mp q7))
              · rw [if_neg q7, b50_78, sp53 hS, mm_psh_i, b50_86, mm_ite0]
                by_cases q8 : cMis B t 1 v1
                · rw [if_pos q8]
                  exact bad6 (Or.inr (m1.mp q8))
                · have n6 : ¬ kMiss B t v0 v1 := fun z => z.elim (fun y => q7 (m0.mpr y)) (fun y => q8 (m1.mpr y))
                  have p0 := cNoP_iff hS (k := k) (v0 := v0) (v1 := v1) q1 q2 hv0 hv1 q3
                  have p1 := cNoP_iff hS (k := k) (v0 := v0) (v1 := v1) q1 q2 hv0 hv1 q4
                  have bad7 : kNoP (kInsB B (100 * t + k) v0 v1) t v0 v1 → mwp X 50 115 [some (.inr (some 1)), some (.inl t), some (.inl k), some (.inl v0), some (.inl v1)] [] (mm_ms0 mi h) Q := by
                    intro hn
                    have e : kIns B t k v0 v1 = (-7, kInsB B (100 * t + k) v0 v1) := by unfold kIns; rw [if_pos q1, if_neg n3, if_pos (show kNoRow B t k from q5), if_neg (by omega), if_neg n6, if_pos hn]
                    rw [e] at h1
                    rw [b50_115]
                    exact h1 (by show (-7 : Int) < -1; decide)
                  rw [if_neg q8, b50_92]
                  refine sp54 hS ?_
                  rw [mm_psh_i, b50_100, mm_ite0]
                  by_cases q9 : cNoP B t k 0 v0
                  · rw [if_pos q9]
                    exact bad7 (Or.inl (p0.mp q9))
                  · rw [if_neg q9, b50_103]
                    refine sp54 hS ?_
                    rw [mm_psh_i, b50_112, mm_ite0]
                    by_cases q10 : cNoP B t k 1 v1
                    · rw [if_pos q10]
                      exact bad7 (Or.inr (p1.mp q10))
                    · rw [if_neg q10, b50_118]
                      exact h0 ⟨q1, n3, q5, q6, n6, fun z => z.elim (fun y => q9 (p0.mpr y)) (fun y => q10 (p1.mpr y))⟩
            · have e : kIns B t k v0 v1 = (-4, B) := by unfold kIns; rw [if_pos q1, if_neg n3, if_pos (show kNoRow B t k from q5), if_pos (by omega)]
              rw [e] at h1
              rw [if_neg q6, b50_65]
              exact h1 (by dsimp only; decide)
        · rw [if_neg q4]
          exact bad3 (fun z => q4 (f1.mpr z.2.2))
      · rw [if_neg q3]
        exact bad3 (fun z => q3 (f0.mpr z.2.1))
    · rw [if_neg q2]
      exact bad3 (fun z => q2 z.1)
  · have e : kIns B t k v0 v1 = (-2, B) := by unfold kIns; rw [if_neg q1]
    rw [e] at h1
    rw [if_neg q1, b50_8]
    exact h1 (by dsimp only; decide)
/-- an update that goes through -/
def cUpdOk (B : Int → Int) (t k c v : Int) : Prop := (kIsRow B t k ∧ 0 ≤ c ∧ c ≤ kCols B t - 1) ∧ (-1 ≤ v ∧ v ≤ 99) ∧ ¬ (v = -1 ∧ kNeed B t c) ∧ ¬ (v ≠ -1 ∧ ¬ kHasP B t c v) ∧ kV B (100 * t + k) c ≠ v
theorem kUpd_ok {t k c v : Int} (hk : cUpdOk B t k c v) : kUpd B t k c v = (kV B (100 * t + k) c, bUp B (198 + (100 * t + k)) (kLay B (100 * t + k) c v)) := by
  obtain ⟨h1, h2, h3, h4, h5⟩ := hk
  unfold kUpd
  rw [if_neg (fun z => z h1), if_neg (fun z => z h2), if_neg h3, if_neg h4, if_neg h5]
theorem kUpd_none {t k c v : Int} (h1 : kIsRow B t k ∧ 0 ≤ c ∧ c ≤ kCols B t - 1) (h2 : -1 ≤ v ∧ v ≤ 99) (h3 : ¬ (v = -1 ∧ kNeed B t c)) (h4 : ¬ (v ≠ -1 ∧ ¬ kHasP B t c v)) (h5 : kV B (100 * t + k) c = v) : kUpd B t k c v = (-9, bUp B (198 + (100 * t + k)) (kLay B (100 * t + k) c v)) := by
  unfold kUpd
  rw [if_neg (fun z => z h1), if_neg (fun z => z h2), if_neg h3, if_neg h4, if_pos h5]
theorem sp51 (hS : cS mi 1 B) {t k c v : Int} (h1 : (kUpd B t k c v).1 < -1 → Q (some (.inl (kUpd B t k c v).1)) (mm_ms0 mi h)) (h0 : cUpdOk B t k c v → Q (some (.inl 0)) (mm_ms0 mi h)) : mcl X 51 [.inr (some 1), .inl t, .inl k, .inl c, .inl v] (mm_ms0 mi h) Q := by
  have w0 := hS.1.1.1
  have bad2 : ¬ (kIsRow B t k ∧ 0 ≤ c ∧ c ≤ kCols B t - 1) → ∀ s : Int, mwp X 51 23 [some (.inr (some 1)), some (.inl t), some (.inl k), some (.inl c), some (.inl v), some (.inl s)] [] (mm_ms0 mi h) Q := by
    intro hn s
    have e : kUpd B t k c v = (-2, B) := by unfold kUpd; rw [if_pos hn]
    rw [e] at h1
    rw [b51_23]
    exact h1 (by dsimp only; decide)
  rw [c51, b51_0]
  refine sp39 hS ?_ ?_
  · intro j g1 g2 g3 g4 g5
    have hj := hS.2.2.2.2 t.toNat (by omega)
    have hrc := hj.1
    have htt : ((t.toNat : Nat) : Int) = t := by omega
    rw [mm_psh_i, b51_6, if_neg (by omega), b51_14, sp37 hS, mm_psh_i, b51_20, mm_ite0]
    by_cases q2 : cHasC B t c
    · have hc2 := hS.1.2.1 t
      have hc01 : c = 0 ∨ c = 1 := by
        have := q2.2
        omega
      have ok1 : kIsRow B t k ∧ 0 ≤ c ∧ c ≤ kCols B t - 1 := ⟨g5, q2.2.1, by have := q2.2.2; omega⟩
      rw [if_pos q2, b51_26, sp88, mm_psh_i, b51_31, mm_ite0]
      by_cases q3 : -1 ≤ v ∧ v ≤ 99
      · rw [if_pos q3, b51_37, sp53 hS, mm_psh_i, b51_45, mm_ite0]
        by_cases q4 : cMis B t c v
        · have e : kUpd B t k c v = (-6, B) := by unfold kUpd; rw [if_neg (fun z => z ok1), if_neg (fun z => z q3), if_pos ⟨q4.1, q4.2.1.2.2, q4.2.2⟩]
          rw [e] at h1
          rw [if_pos q4, b51_48]
          exact h1 (by dsimp only; decide)
        · have n4 : ¬ (v = -1 ∧ kNeed B t c) := fun z => q4 ⟨z.1, q2, z.2.2⟩
          rw [if_neg q4, b51_51]
          refine sp54 hS ?_
          rw [mm_psh_i, b51_60, mm_ite0]
          by_cases q5 : cNoP B t k c v
          · have e : kUpd B t k c v = (-7, B) := by unfold kUpd; rw [if_neg (fun z => z ok1), if_neg (fun z => z q3), if_neg n4, if_pos ⟨q5.1, q5.2.2.2⟩]
            rw [e] at h1
            rw [if_pos q5, b51_63]
            exact h1 (by dsimp only; decide)
          · have n5 : ¬ (v ≠ -1 ∧ ¬ kHasP B t c v) := by
              rintro ⟨a1, a2⟩
              refine q5 ⟨a1, q2, ?_, a2⟩
              rintro ⟨a3, a4⟩
              refine a2 ?_
              show kIsRow B (kOf B (kRo B t c) 1) v
              rw [a3, a4]
              exact g5
            have hv : kV B (100 * t + k) c = cVl mi 1 t.toNat j c.toNat := by
              have := cRowV hS (t := t.toNat) (j := j) (by omega) g3 hc01
              rw [htt, g4] at this
              exact this
            rw [if_neg q5, b51_66, show 20 * t + (j : Int) = 20 * ((t.toNat : Nat) : Int) + j by omega, sp40 (by omega) (by omega) hc01, mm_psh_i, b51_73, ← hv]
            by_cases q6 : kV B (100 * t + k) c = v
            · have e := kUpd_none ok1 q3 n4 n5 q6
              rw [e] at h1
              rw [if_pos q6, b51_78, b51_84]
              exact h1 (by show (-9 : Int) < -1; decide)
            · rw [if_neg q6, b51_83, b51_84]
              exact h0 ⟨ok1, q3, n4, n5, q6⟩
      · have e : kUpd B t k c v = (-3, B) := by unfold kUpd; rw [if_neg (fun z => z ok1), if_pos q3]
        rw [e] at h1
        rw [if_neg q3, b51_34]
        exact h1 (by dsimp only; decide)
    · rw [if_neg q2]
      exact bad2 (fun z => q2 ⟨⟨g1, g2⟩, z.2.1, by omega⟩) _
  · intro g5
    rw [mm_psh_i, b51_6, if_pos rfl]
    exact bad2 (fun z => g5 z.1) _
end CY
