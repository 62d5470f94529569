-- THE CLASS: the calls that ask
theorem fnx_at {p : Nat → Bool} {n k : Nat} (hk : k < n) (hp : p k = true) (hb : ∀ j, j < k → p j = false) : fnx p n 0 = some k := by
  have key : ∀ d i, i + d = k → fnx p n i = some k := by
    intro d
    induction d with
    | zero => intro i hi; rw [show i = k by omega]; exact fnx_self hk hp
    | succ d ih => intro i hi; rw [fnx_next (by omega) (hb i (by omega))]; exact ih (i + 1) (by omega)
  exact key k 0 (by omega)
theorem fnx_no {p : Nat → Bool} {n : Nat} (hb : ∀ j, j < n → p j = false) : fnx p n 0 = none := by
  have key : ∀ d i, i + d = n → fnx p n i = none := by
    intro d
    induction d with
    | zero => intro i hi; exact fnx_end (by omega)
    | succ d ih => intro i hi; rw [fnx_next (by omega) (hb i (by omega))]; exact ih (i + 1) (by omega)
  exact key n 0 (by omega)
section CQ
variable {X : Nat × (Nat → Int)} {mi : mm_M} {h : mm_H} {Q : Option mm_V → mm_S → Prop} {B : Int → Int}
theorem sp72 (hS : cS mi 1 B) {t : Int} (hq : Q (some (.inl (kGiveR B t))) (mm_ms0 mi h)) : mcl X 72 [.inr (some 0), .inl t] (mm_ms0 mi h) Q := by
  have w0 := hS.1.1.1
  unfold kGiveR at hq
  rw [c72, b72_0, sp35 hS, mm_psh_i, b72_8, mm_ite0]
  by_cases q : 0 ≤ t ∧ t < B 0
  · rw [if_pos q] at hq
    rw [if_pos q, b72_11, mm_andT (by omega), b72_20, b72_25, show mi 2 t.toNat = cRc mi 1 t.toNat from rfl, ← cRows hS (t := t) (by omega)]
    exact hq
  · rw [if_neg q] at hq
    rw [if_neg q, b72_23, b72_25]
    exact hq
theorem sp73 (hS : cS mi 1 B) {t r : Int} (hq : Q (some (.inl (kKeyAt B t r))) (mm_ms0 mi h)) : mcl X 73 [.inr (some 0), .inl t, .inl r] (mm_ms0 mi h) Q := by
  have w0 := hS.1.1.1
  unfold kKeyAt at hq
  rw [c73, b73_0, sp35 hS, mm_psh_i, b73_8, mm_ite0]
  by_cases q : 0 ≤ t ∧ t < B 0
  · rw [if_neg (fun z => z q)] at hq
    rw [if_pos q, b73_14]
    by_cases q2 : r < 0
    · rw [if_pos q2] at hq
      rw [if_pos q2, b73_18]
      exact hq
    · have htt : ((t.toNat : Nat) : Int) = t := by omega
      have hT := hS.2.2.2.2 t.toNat (by omega)
      have hrank : ∀ j : Nat, (j : Int) < cRc mi 1 t.toNat → kRank B t (cKy mi 1 t.toNat j).toNat = j := by
        intro j hj
        have := cRank hS (t := t.toNat) (j := j) (by omega) hj
        rw [htt] at this
        exact this
      obtain ⟨hrc, hz, hrow, hso, hco⟩ := hT
      have row : ∀ k : Nat, kIsRow B t k → ∃ j : Nat, (j : Int) < cRc mi 1 t.toNat ∧ cKy mi 1 t.toNat j = k := by
        intro k hk
        refine hco k (by have := hk.2.1; omega) ?_
        rw [htt]
        exact hk.2.2
      have at' : ∀ k j : Nat, (j : Int) < cRc mi 1 t.toNat → cKy mi 1 t.toNat j = k → kRank B t k = j := by
        intro k j hj e
        have := hrank j hj
        rw [e] at this
        exact this
      rw [if_neg q2] at hq
      rw [if_neg q2, b73_21, mm_andT (by omega), b73_31, show mi 2 t.toNat = cRc mi 1 t.toNat from rfl]
      by_cases q3 : r < cRc mi 1 t.toNat
      · have hr : ((r.toNat : Nat) : Int) = r := by omega
        obtain ⟨r1, r2, r3, r4⟩ := hrow r.toNat (by omega)
        have hf : fnx (kKeyP B t r) 100 0 = some (cKy mi 1 t.toNat r.toNat).toNat := by
          refine fnx_at (by omega) ?_ (fun j hj => ?_)
          · unfold kKeyP
            rw [decide_eq_true_eq]
            refine ⟨⟨q, by omega, ?_⟩, by rw [hrank _ (by omega)]; exact hr⟩
            rw [htt] at r2
            rw [show (((cKy mi 1 t.toNat r.toNat).toNat : Nat) : Int) = cKy mi 1 t.toNat r.toNat by omega]
            omega
          · unfold kKeyP
            refine decide_eq_false (fun z => ?_)
            obtain ⟨i, hi, ei⟩ := row j z.1
            have := at' j i hi ei
            have e : i = r.toNat := by omega
            subst e
            omega
        rw [hf] at hq
        dsimp only at hq
        rw [if_pos q3, b73_34, mm_wi (z := t * 20) (by omega) (by omega), mm_wi (z := t * 20 + r) (by omega) (by omega), mm_andT (by omega), b73_48, b73_53]
        have e : mi 6 (t * 20 + r).toNat = cKy mi 1 t.toNat r.toNat := congrArg (mi 6) (by omega)
        rw [e]
        rw [show (((cKy mi 1 t.toNat r.toNat).toNat : Nat) : Int) = cKy mi 1 t.toNat r.toNat by omega] at hq
        exact hq
      · have hf : fnx (kKeyP B t r) 100 0 = none := by
          refine fnx_no (fun j hj => ?_)
          unfold kKeyP
          refine decide_eq_false (fun z => ?_)
          obtain ⟨i, hi, ei⟩ := row j z.1
          have := at' j i hi ei
          omega
        rw [hf] at hq
        rw [if_neg q3, b73_51, b73_53]
        exact hq
  · rw [if_pos q] at hq
    rw [if_neg q, b73_11]
    exact hq
theorem sp74 (hS : cS mi 1 B) {t k c : Int} (hq : Q (some (.inl (kGiveV B t k c))) (mm_ms0 mi h)) : mcl X 74 [.inr (some 0), .inl t, .inl k, .inl c] (mm_ms0 mi h) Q := by
  have w0 := hS.1.1.1
  unfold kGiveV at hq
  have no : ¬ (kIsRow B t k ∧ 0 ≤ c ∧ c ≤ kCols B t - 1) → ∀ s : Int, mwp X 74 29 [some (.inr (some 0)), some (.inl t), some (.inl k), some (.inl c), some (.inl s)] [] (mm_ms0 mi h) Q := by
    intro z s
    rw [if_neg z] at hq
    rw [b74_29]
    exact hq
  rw [c74, b74_0]
  refine sp39 hS ?_ ?_
  · intro j g1 g2 g3 g4 g5
    have hrc := (hS.2.2.2.2 t.toNat (by omega)).1
    rw [mm_psh_i, b74_9, if_neg (by omega), b74_17, sp37 hS, mm_psh_i, b74_26, mm_ite0]
    by_cases q2 : cHasC B t c
    · have hc2 := hS.1.2.1 t
      have q3 := q2.2
      rw [if_pos ⟨g5, by omega⟩] at hq
      have hv : kV B (100 * t + k) c = cVl mi 1 t.toNat j c.toNat := by
        have := cRowV hS (t := t.toNat) (j := j) (by omega) g3 (c := c) (by omega)
        rw [show ((t.toNat : Nat) : Int) = t by omega, g4] at this
        exact this
      rw [if_pos q2, b74_32, show 20 * t + (j : Int) = 20 * ((t.toNat : Nat) : Int) + j by omega, sp40 (by omega) (by omega) (by omega), mm_psh_i, b74_42, ← hv]
      exact hq
    · rw [if_neg q2]
      exact no (fun z => q2 ⟨⟨g1, g2⟩, z.2.1, by omega⟩) _
  · intro g5
    rw [mm_psh_i, b74_9, if_pos rfl]
    exact no (fun z => g5 z.1) _
theorem sp75 (hS : cS mi 1 B) {r k : Int} (hq : Q (some (.inl (kGiveC B r k))) (mm_ms0 mi h)) : mcl X 75 [.inr (some 0), .inl r, .inl k] (mm_ms0 mi h) Q := by
  have w0 := hS.1.1.1
  unfold kGiveC at hq
  have no : ¬ ((0 ≤ r ∧ r < B 1) ∧ kIsRow B (kOf B r 1) k) → mwp X 75 31 [some (.inr (some 0)), some (.inl r), some (.inl k)] [] (mm_ms0 mi h) Q := by
    intro z
    rw [if_neg z] at hq
    rw [b75_31]
    exact hq
  rw [c75, b75_0, sp36 hS, mm_psh_i, b75_8, mm_ite0]
  by_cases q1 : 0 ≤ r ∧ r < B 1
  · have hk := hS.1.1.2.2.1 r q1.1 q1.2
    have hpr := hk.2.1
    rw [if_pos q1, b75_11, sp41 hS q1 (by omega), mm_psh_i, b75_24]
    refine sp38 hS ?_
    rw [mm_psh_i, b75_28, mm_ite0]
    by_cases q2 : kIsRow B (kOf B r 1) k
    · rw [if_pos ⟨q1, q2⟩] at hq
      rw [if_pos q2, b75_34]
      refine sp47 hS q1 ?_
      have hk2 := q2.2.1
      rw [mm_psh_i, b75_43, cnt_co (q := fun j : Nat => decide (kIsCh B r j (100 * kOf B r 1 + k))) (fun j hj => by
        unfold cHow
        apply Bool.eq_iff_iff.mpr
        rw [decide_eq_true_eq, decide_eq_true_eq]
        constructor
        · rintro ⟨a1, a2⟩
          exact ⟨a1, by omega, by omega⟩
        · rintro ⟨a1, a2, a3⟩
          exact ⟨a1, by omega⟩)]
      exact hq
    · rw [if_neg q2]
      exact no (fun z => q2 z.2)
  · rw [if_neg q1]
    exact no (fun z => q1 z.1)
theorem sp76 (hS : cS mi 1 B) {r w : Int} (hq : Q (some (.inl (kGiveF B r w))) (mm_ms0 mi h)) : mcl X 76 [.inr (some 0), .inl r, .inl w] (mm_ms0 mi h) Q := by
  unfold kGiveF at hq
  rw [c76, b76_0, sp36 hS, mm_psh_i, b76_8, mm_ite0]
  by_cases q1 : 0 ≤ r ∧ r < B 1
  · rw [if_neg (fun z => z q1)] at hq
    rw [if_pos q1, b76_14]
    by_cases q2 : w < 0
    · rw [if_neg (by omega)] at hq
      rw [if_pos q2, b76_36, b76_38]
      exact hq
    · rw [if_neg q2, b76_18]
      by_cases q3 : w < 6
      · rw [if_pos (by omega)] at hq
        rw [if_pos q3, b76_24, sp41 hS q1 (by omega), mm_psh_i, b76_33, b76_38]
        exact hq
      · rw [if_neg (by omega)] at hq
        rw [if_neg q3, b76_36, b76_38]
        exact hq
  · rw [if_pos q1] at hq
    rw [if_neg q1, b76_11]
    exact hq
theorem sp77 (hS : cS mi 1 B) {i : Int} (hq : Q (some (.inl (kGiveD B i))) (mm_ms0 mi h)) : mcl X 77 [.inr (some 0), .inl i] (mm_ms0 mi h) Q := by
  have h5 := hS.1.2.2.2.2.2
  unfold kGiveD at hq
  rw [c77, b77_0]
  by_cases q1 : i < 0
  · rw [if_pos q1] at hq
    rw [if_pos q1, b77_4]
    exact hq
  · rw [if_neg q1] at hq
    rw [if_neg q1, b77_7, hS.2.1.2.2.1]
    by_cases q2 : i < B 5
    · rw [if_pos q2] at hq
      have := hS.2.2.1.2 i.toNat (by omega)
      rw [show ((i.toNat : Nat) : Int) = i by omega] at this
      rw [if_pos q2, b77_18, mm_andT (by omega), b77_27, b77_32, show mi 8 i.toNat = B (78 + i) from this]
      exact hq
    · rw [if_neg q2] at hq
      rw [if_neg q2, b77_30, b77_32]
      exact hq
/-- a number of the whole store -/
noncomputable def kTotC (B : Int → Int) (n len w : Int) : Int := if w = 0 then B 0 else if w = 1 then B 1 else if w = 2 then kAll B else if w = 3 then kNulls B
  else if w = 4 then B 2 else if w = 5 then B 3 else if w = 6 then B 4 else if w = 7 then n else if w = 8 then len else -3
theorem sp78 (hS : cS mi 1 B) {w : Int} (hq : Q (some (.inl (kTotC B (mi 25 1) (mi 59 1) w))) (mm_ms0 mi h)) : mcl X 78 [.inr (some 0), .inl w] (mm_ms0 mi h) Q := by
  obtain ⟨d0, d1, d2, d3, d4, d5⟩ := hS.2.1
  unfold kTotC at hq
  rw [c78, b78_0]
  by_cases q : w < 0 ∨ 8 < w
  · rw [if_neg (by omega), if_neg (by omega), if_neg (by omega), if_neg (by omega), if_neg (by omega), if_neg (by omega), if_neg (by omega), if_neg (by omega), if_neg (by omega)] at hq
    rw [if_pos q, b78_124]
    exact hq
  · rw [if_neg q]
    by_cases q0 : w = 0
    · rw [if_pos q0] at hq
      rw [if_pos q0, b78_52, d0]
      exact hq
    · rw [if_neg q0] at hq
      rw [if_neg q0]
      by_cases q1 : w = 1
      · rw [if_pos q1] at hq
        rw [if_pos q1, b78_60, d1]
        exact hq
      · rw [if_neg q1] at hq
        rw [if_neg q1]
        by_cases q2 : w = 2
        · rw [if_pos q2] at hq
          rw [if_pos q2, b78_68]
          refine sp45 hS ?_
          rw [mm_psh_i, b78_75]
          exact hq
        · rw [if_neg q2] at hq
          rw [if_neg q2]
          by_cases q3 : w = 3
          · rw [if_pos q3] at hq
            rw [if_pos q3, b78_76]
            refine sp46 hS ?_
            rw [mm_psh_i, b78_83]
            exact hq
          · rw [if_neg q3] at hq
            rw [if_neg q3]
            by_cases q4 : w = 4
            · rw [if_pos q4] at hq
              rw [if_pos q4, b78_84, d3]
              exact hq
            · rw [if_neg q4] at hq
              rw [if_neg q4]
              by_cases q5 : w = 5
              · rw [if_pos q5] at hq
                rw [if_pos q5, b78_92, d4]
                exact hq
              · rw [if_neg q5] at hq
                rw [if_neg q5]
                by_cases q6 : w = 6
                · rw [if_pos q6] at hq
                  rw [if_pos q6, b78_100, d5]
                  exact hq
                · rw [if_neg q6] at hq
                  rw [if_neg q6]
                  by_cases q7 : w = 7
                  · rw [if_pos q7] at hq
                    rw [if_pos q7, b78_108]
                    exact hq
                  · rw [if_neg q7, if_pos (by omega)] at hq
                    rw [if_neg q7, b78_116]
                    exact hq
theorem sp79 (hS : cS mi 1 B) {t k i : Int} (hq : ∀ m2, cFD mi m2 → Q (some (.inl (kGiveG B t k i))) (mm_ms0 m2 h)) : mcl X 79 [.inr (some 0), .inl t, .inl k, .inl i] (mm_ms0 mi h) Q := by
  unfold kGiveG at hq
  rw [c79, b79_0]
  have go : kIsRow B t k → ∀ s : Int, s ≠ -2 → ∀ m2, cFD mi m2 → cPlan m2 B (100 * t + k) → mwp X 79 13 [some (.inr (some 0)), some (.inl t), some (.inl k), some (.inl i)] [.inl s] (mm_ms0 m2 h) Q := by
    intro hrow s hs m2 hF hP
    have hq2 := hq m2 hF
    have hx : 0 ≤ 100 * t + k ∧ 100 * t + k < 600 := by
      have := hS.1.1.1
      have := hrow.1
      have := hrow.2.1
      omega
    obtain ⟨o1, o2⟩ := kOut_in hS.1.1 hS.1.ok.2.2 hx hrow.2.2
    rw [if_neg (fun z => z hrow)] at hq2
    rw [b79_13, if_neg hs, b79_21]
    by_cases q1 : i < 0
    · rw [if_pos q1] at hq2
      rw [if_pos q1, b79_25]
      exact hq2
    · rw [if_neg q1] at hq2
      rw [if_neg q1, b79_28, hP.2.1]
      by_cases q2 : i < (kOut B (100 * t + k)).length
      · rw [if_pos q2] at hq2
        rw [if_pos q2, b79_39, mm_andT (by omega), b79_48, b79_53, hP.2.2 i.toNat (by omega)]
        exact hq2
      · rw [if_neg q2] at hq2
        rw [if_neg q2, b79_51, b79_53]
        exact hq2
  refine sp5 hS ?_ ?_ ?_
  · intro hn
    have hq2 := hq mi cFD.rf
    rw [if_pos hn] at hq2
    rw [mm_psh_i, b79_13, if_pos rfl, b79_18]
    exact hq2
  · intro hrow _ m2 hF hP _ _ _
    rw [mm_psh_i]
    exact go hrow 0 (by decide) m2 hF hP
  · intro hrow _ _ m2 hF hP _ _
    rw [mm_psh_i]
    exact go hrow (-8) (by decide) m2 hF hP
theorem sp80 (hS : cS mi 1 B) {t k : Int} (hq : ∀ m2, cFD mi m2 → Q (some (.inl (kGiveWhy B t k))) (mm_ms0 m2 h)) : mcl X 80 [.inr (some 0), .inl t, .inl k] (mm_ms0 mi h) Q := by
  unfold kGiveWhy at hq
  rw [c80, b80_0]
  refine sp5 hS ?_ ?_ ?_
  · intro hn
    have hq2 := hq mi cFD.rf
    rw [if_pos hn] at hq2
    rw [mm_psh_i, b80_13, if_pos rfl, b80_18, b80_30]
    exact hq2
  · intro hrow hw m2 hF hP y2 y3 y4
    have hq2 := hq m2 hF
    rw [if_neg (fun z => z hrow), hw] at hq2
    rw [mm_psh_i, b80_13, if_neg (by decide), b80_23, b80_30, y2]
    exact hq2
  · intro hrow e hw m2 hF hP y2 y3
    have hq2 := hq m2 hF
    rw [if_neg (fun z => z hrow), hw] at hq2
    rw [mm_psh_i, b80_13, if_neg (by decide), b80_23, b80_30, y2]
    exact hq2
theorem sp81 (hS : cS mi 1 B) {t k : Int} (hq : ∀ m2, cFD mi m2 → Q (some (.inl (kGiveBl B t k))) (mm_ms0 m2 h)) : mcl X 81 [.inr (some 0), .inl t, .inl k] (mm_ms0 mi h) Q := by
  unfold kGiveBl at hq
  rw [c81, b81_0]
  refine sp5 hS ?_ ?_ ?_
  · intro hn
    have hq2 := hq mi cFD.rf
    rw [if_pos hn] at hq2
    rw [mm_psh_i, b81_13, if_pos rfl, b81_18, b81_30]
    exact hq2
  · intro hrow hw m2 hF hP y2 y3 y4
    have hq2 := hq m2 hF
    rw [if_neg (fun z => z hrow), hw] at hq2
    rw [mm_psh_i, b81_13, if_neg (by decide), b81_23, b81_30, y3]
    exact hq2
  · intro hrow e hw m2 hF hP y2 y3
    have hq2 := hq m2 hF
    rw [if_neg (fun z => z hrow), hw] at hq2
    rw [mm_psh_i, b81_13, if_neg (by decide), b81_23, b81_30, y3]
    exact hq2
theorem sp82 (hS : cS mi 1 B) {t k : Int} (hq : ∀ m2, cFD mi m2 → Q (some (.inl (kGiveWc B t k))) (mm_ms0 m2 h)) : mcl X 82 [.inr (some 0), .inl t, .inl k] (mm_ms0 mi h) Q := by
  unfold kGiveWc at hq
  rw [c82, b82_0]
  refine sp5 hS ?_ ?_ ?_
  · intro hn
    have hq2 := hq mi cFD.rf
    rw [if_pos hn] at hq2
    rw [mm_psh_i, b82_13, if_neg (by decide), b82_28, b82_29]
    exact hq2
  · intro hrow hw m2 hF hP y2 y3 y4
    have hq2 := hq m2 hF
    rw [if_neg (fun z => z hrow), hw] at hq2
    rw [mm_psh_i, b82_13, if_pos rfl, b82_18, b82_29, y4, kChgN_cnt hS.1 _ (Nat.le_refl _)]
    exact hq2
  · intro hrow e hw m2 hF hP y2 y3
    have hq2 := hq m2 hF
    rw [if_neg (fun z => z hrow), hw] at hq2
    rw [mm_psh_i, b82_13, if_neg (by decide), b82_28, b82_29]
    exact hq2
theorem sp83 (hS : cS mi 1 B) (hFk : bFk B) {t k : Int} (hq : ∀ m2, cFC mi m2 → Q (some (.inl (kRing B t k))) (mm_ms0 m2 h)) : mcl X 83 [.inr (some 0), .inl t, .inl k] (mm_ms0 mi h) Q := by
  have w0 := hS.1.1.1
  unfold kRing at hq
  rw [c83, b83_0]
  refine sp38 hS ?_
  rw [mm_psh_i, b83_9, mm_ite0]
  by_cases q1 : kIsRow B t k
  · have hx : 0 ≤ 100 * t + k ∧ 100 * t + k < 600 := by
      have := q1.1
      have := q1.2.1
      omega
    rw [if_pos q1, b83_15, sp89 (by omega) (by have := q1.2.1; omega), mm_psh_i, b83_28]
    refine sp1 hS hFk hx q1.2.2 ?_ ?_
    · intro z m2 hF
      have hq2 := hq m2 hF
      rw [if_neg (fun z => z q1), if_pos z] at hq2
      rw [mm_psh_i, b83_31, if_neg (by decide), b83_34, b83_39]
      exact hq2
    · intro z m2 hF
      have hq2 := hq m2 hF
      rw [if_neg (fun z => z q1), if_neg z] at hq2
      rw [mm_psh_i, b83_31, if_pos rfl, b83_38, b83_39]
      exact hq2
  · have hq2 := hq mi (fun _ _ => rfl)
    rw [if_pos q1] at hq2
    rw [if_neg q1, b83_12]
    exact hq2
theorem sp84 (hS : cS mi 1 B) {t : Int} (hq : ∀ m2, cFD mi m2 → Q (some (.inl (kGiveDe B t))) (mm_ms0 m2 h)) : mcl X 84 [.inr (some 0), .inl t] (mm_ms0 mi h) Q := by
  have w0 := hS.1.1.1
  unfold kGiveDe at hq
  rw [c84, b84_0, sp35 hS, mm_psh_i, b84_8, mm_ite0]
  by_cases q1 : 0 ≤ t ∧ t < B 0
  · have htt : ((t.toNat : Nat) : Int) = t := by omega
    have hT := hS.2.2.2.2 t.toNat (by omega)
    have hrc := hT.1
    have nof : ∀ k : Nat, k < 100 → kCe B (100 * ((t.toNat : Nat) : Int) + k) < 0 → kFreeB B t k = false := by
      intro k hk hc
      refine kFreeB_n (fun z => ?_)
      have := z.1.2.2
      rw [htt] at hc
      omega
    rw [if_pos q1, b84_14]
    have key := mm_for (fun n => ∀ (m : mm_M) (o4 : Option mm_V), cFD mi m → mwp X 84 18 [some (.inr (some 0)), some (.inl t), some (.inl (cnt (cAt mi 1 t.toNat n) (kFreeB B t))), some (.inl (n : Int)), o4] [] (mm_ms0 m h) Q) (cRc mi 1 t.toNat).toNat ?_ ?_ 0 (Nat.zero_le _)
    · exact key mi none cFD.rf
    · intro m o4 hF
      have hq2 := hq m hF
      have e2 : m 2 t.toNat = cRc mi 1 t.toNat := by rw [hF 2 (by omega)]; rfl
      rw [if_neg (fun z => z q1)] at hq2
      rw [b84_18, mm_andT (by omega), b84_28, e2, if_neg (by omega), b84_84]
      rw [← cnt_steady (lo := cAt mi 1 t.toNat (cRc mi 1 t.toNat).toNat) (hT.le _).1 (fun k h1 h2 => nof k h2 (hT.gap h1 h2 (fun z => by omega)))]
      exact hq2
    · intro n hn ih m o4 hF
      have hj : (n : Int) < cRc mi 1 t.toNat := by omega
      obtain ⟨k1, k2, k3, k4⟩ := hT.2.2.1 n hj
      have hle2 := (hT.le n).2 hj
      have hle1 := (hT.le n).1
      have e2 : m 2 t.toNat = cRc mi 1 t.toNat := by rw [hF 2 (by omega)]; rfl
      have hg := cnt_steady (p := kFreeB B t) (lo := cAt mi 1 t.toNat n) (hi := (cKy mi 1 t.toNat n).toNat) (by omega) (fun k h1 h2 => nof k (by omega) (hT.gap h1 (by omega) (fun z => by omega)))
      have hn1 : cAt mi 1 t.toNat (n + 1) = (cKy mi 1 t.toNat n).toNat + 1 := by
        unfold cAt
        rw [if_neg (by omega), if_pos (by omega)]
        rfl
      have hc1 := cnt_nn (cAt mi 1 t.toNat n) (kFreeB B t)
      have hc2 := cnt_le (cAt mi 1 t.toNat n) (kFreeB B t)
      rw [hn1, cnt_succ, hg] at ih
      have e6 : m 6 (t * 20 + (n : Int)).toNat = cKy mi 1 t.toNat n := by
        rw [hF 6 (by omega)]
        exact congrArg (mi 6) (by omega)
      have ekn : (((cKy mi 1 t.toNat n).toNat : Nat) : Int) = cKy mi 1 t.toNat n := by omega
      have hrow : kIsRow B t (cKy mi 1 t.toNat n) := by
        refine ⟨q1, by omega, ?_⟩
        rw [htt] at k2
        omega
      -- not this one
      have no : ¬ kFree B t (cKy mi 1 t.toNat n) → ∀ m2 (s4 : Int), cFD mi m2 → mwp X 84 78 [some (.inr (some 0)), some (.inl t), some (.inl (cnt (cAt mi 1 t.toNat n) (kFreeB B t))), some (.inl (n : Int)), some (.inl s4)] [] (mm_ms0 m2 h) Q := by
        intro z m2 s4 hF2
        rw [b84_78, mm_wi (z := (n : Int) + 1) (by omega) (by omega)]
        have := ih m2 (some (.inl s4)) hF2
        rw [kFreeB_n (by rw [ekn]; exact z), if_neg (by decide), Int.add_zero] at this
        exact this
      rw [b84_18, mm_andT (by omega), b84_28, e2, if_pos (by omega), b84_31, mm_wi (z := t * 20) (by omega) (by omega), mm_wi (z := t * 20 + (n : Int)) (by omega) (by omega), mm_andT (by omega), e6, b84_54]
      refine sp5 (hF.S hS) (fun z => absurd hrow z) ?_ ?_
      · intro _ hw m2 hF2 hP y2 y3 y4
        rw [mm_psh_i, b84_57, if_pos rfl, b84_64, hP.2.1]
        have hfr : (kOut B (100 * t + cKy mi 1 t.toNat n)).length = 1 ↔ kFree B t (cKy mi 1 t.toNat n) := ⟨fun z => ⟨hrow, hw, z⟩, fun z => z.2.2⟩
        generalize (kOut B (100 * t + cKy mi 1 t.toNat n)).length = len at hfr ⊢
        by_cases q2 : (len : Int) = 1
        · have yes : kFree B t (cKy mi 1 t.toNat n) := hfr.mp (by omega)
          rw [if_pos q2, b84_75, b84_78, mm_wi (by omega) (by omega), mm_wi (by omega) (by omega)]
          have := ih m2 (some (.inl 0)) (hF.tr hF2)
          rw [kFreeB_y (by rw [ekn]; exact yes), if_pos rfl] at this
          exact this
        · rw [if_neg q2]
          exact no (fun z => q2 (by have := hfr.mpr z; omega)) m2 _ (hF.tr hF2)
      · intro _ e hw m2 hF2 hP y2 y3
        rw [mm_psh_i, b84_57, if_neg (by decide)]
        exact no (fun z => by have := z.2.1; rw [hw] at this; cases this) m2 _ (hF.tr hF2)
  · have hq2 := hq mi cFD.rf
    rw [if_pos q1] at hq2
    rw [if_neg q1, b84_11]
    exact hq2
end CQ
