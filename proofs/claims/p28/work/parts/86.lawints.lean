-- THE LAW's methods of ints: cell, up, columns, act
def lsh (x k : Int) : Int := (Int32.ofInt x >>> (Int32.ofInt k &&& 31)).toInt
def lan (x k : Int) : Int := (Int32.ofInt x &&& Int32.ofInt k).toInt
def lup (v n : Int) : Int := Int.tmod (lan v 2147483647) n
def lcell (X : Nat × (Nat → Int)) (k : Int) : Int := if k < X.1 then X.2 k.toNat else mm_w (1812433253 * mm_w (k + 31))
theorem lan_nn (v : Int) : 0 ≤ lan v 2147483647 := by
  have h : ((Int32.ofInt v &&& Int32.ofInt 2147483647).toBitVec).msb = false := by
    show ((Int32.ofInt v).toBitVec &&& (Int32.ofInt 2147483647).toBitVec).msb = false
    rw [BitVec.msb_and, show ((Int32.ofInt 2147483647).toBitVec).msb = false by decide, Bool.and_false]
  rw [BitVec.msb_eq_toInt] at h
  have h2 := of_decide_eq_false h
  show 0 ≤ ((Int32.ofInt v &&& Int32.ofInt 2147483647).toBitVec).toInt
  omega
theorem lup_in {v n : Int} (hn : 0 < n) : 0 ≤ lup v n ∧ lup v n < n := by
  unfold lup
  rw [Int.tmod_eq_emod_of_nonneg (lan_nn v)]
  exact ⟨Int.emod_nonneg _ (by omega), Int.emod_lt_of_pos _ hn⟩
section LI
variable {X : Nat × (Nat → Int)} {mi : mm_M} {h : mm_H} {Q : Option mm_V → mm_S → Prop} {B : Int → Int} {Bs : Nat → Int → Int} {n : Int}
theorem sp155 {v m : Int} (hm : 0 < m) : mcl X 155 [.inl v, .inl m] (mm_ms0 mi h) Q = Q (some (.inl (lup v m))) (mm_ms0 mi h) := by
  rw [mcl_in (L := [some (.inl v), some (.inl m)]) he155 rfl, mwp_steps (pc2 := 5) (L2 := [some (.inl v), some (.inl m)]) (st2 := [.inl m, .inl (lan v 2147483647)]) (S2 := mm_ms0 mi h) 4 he155 rfl]
  rw [mwp_stepC (c := 0 < m) (X := X) (pc := 5) (L := [some (.inl v), some (.inl m)]) (st := [.inl m, .inl (lan v 2147483647)]) (S := mm_ms0 mi h) (pc2 := 6) (L2 := [some (.inl v), some (.inl m)]) (st2 := [.inl (lup v m)]) (S2 := mm_ms0 mi h) he155 (ins := .irem) (len := 1) (tgt := 0) rfl (fun q => if_pos q) (fun q => if_neg q), mm_andT hm]
  exact mwp_ret (len := 1) (tgt := 0) he155 rfl rfl rfl
theorem sp154 {k : Int} (hk : 0 ≤ k) : mcl X 154 [.inr none, .inl k] (mm_ms0 mi h) Q = Q (some (.inl (lcell X k))) (mm_ms0 mi h) := by
  have fin : ∀ z, mwp X 154 19 [some (.inr none), some (.inl k)] [.inl z] (mm_ms0 mi h) Q = Q (some (.inl z)) (mm_ms0 mi h) := fun z => mwp_ret (len := 1) (tgt := 0) he154 rfl rfl rfl
  rw [mcl_in (L := [some (.inr none), some (.inl k)]) he154 rfl, mwp_steps (pc2 := if k < X.1 then 6 else 12) (L2 := [some (.inr none), some (.inl k)]) (st2 := []) (S2 := mm_ms0 mi h) 4 he154 rfl, mwp_ite]
  unfold lcell
  by_cases q : k < X.1
  · rw [if_pos q, if_pos q, mwp_steps (pc2 := 8) (L2 := [some (.inr none), some (.inl k)]) (st2 := [.inl k, .inr none]) (S2 := mm_ms0 mi h) 2 he154 rfl]
    rw [mwp_stepC (c := 0 ≤ k ∧ k < X.1) (X := X) (pc := 8) (L := [some (.inr none), some (.inl k)]) (st := [.inl k, .inr none]) (S := mm_ms0 mi h) (pc2 := 9) (L2 := [some (.inr none), some (.inl k)]) (st2 := [.inl (X.2 k.toNat)]) (S2 := mm_ms0 mi h) he154 (ins := .iaload) (len := 1) (tgt := 0) rfl (fun q => if_pos q) (fun q => if_neg q), mm_andT ⟨hk, q⟩]
    rw [mwp_steps (pc2 := 19) (L2 := [some (.inr none), some (.inl k)]) (st2 := [.inl (X.2 k.toNat)]) (S2 := mm_ms0 mi h) 1 he154 rfl]
    exact fin _
  · rw [if_neg q, if_neg q, mwp_steps (pc2 := 19) (L2 := [some (.inr none), some (.inl k)]) (st2 := [.inl (mm_w (1812433253 * mm_w (k + 31)))]) (S2 := mm_ms0 mi h) 5 he154 rfl]
    exact fin _
theorem kGiveF_in {r w : Int} (hr : 0 ≤ r ∧ r < B 1) (hw : 0 ≤ w ∧ w ≤ 5) : kGiveF B r w = kOf B r w := by
  unfold kGiveF
  rw [if_neg (fun z => z hr), if_pos hw]
theorem sp157 (hS : cS mi 1 B) {t : Int} (hq : Q (some (.inl (kCols B t))) (mm_ms0 mi h)) : mcl X 157 [.inr (some 0), .inl t] (mm_ms0 mi h) Q := by
  have w1 := hS.1.1.2.1
  rw [c157, b157_0]
  refine mm_for (fun i => mwp X 157 4 [some (.inr (some 0)), some (.inl t), some (.inl (cnt i (fun r => decide (kOf B r 0 = t)))), some (.inl (i : Int))] [] (mm_ms0 mi h) Q) (B 1).toNat ?_ ?_ 0 (Nat.zero_le _)
  · rw [b157_4]
    refine sp78 hS ?_
    rw [kTotC_1, mm_psh_i, b157_10, if_neg (by omega), b157_37]
    exact hq
  · intro i hi ih
    have e1 := cnt_nn i (fun r => decide (kOf B r 0 = t))
    have e2 := cnt_le i (fun r => decide (kOf B r 0 = t))
    rw [cnt_succ] at ih
    rw [b157_4]
    refine sp78 hS ?_
    rw [kTotC_1, mm_psh_i, b157_10, if_pos (by omega), b157_13]
    refine sp76 hS ?_
    rw [kGiveF_in (by omega) (by omega), mm_psh_i, b157_20]
    by_cases q : kOf B i 0 = t
    · rw [if_pos (decide_eq_true q)] at ih
      rw [if_pos q, b157_24, b157_29, mm_wi (by omega) (by omega), mm_wi (by omega) (by omega)]
      exact ih
    · rw [if_neg (by simpa using q)] at ih
      rw [if_neg q, b157_28, b157_29, mm_wi (by omega) (by omega), mm_wi (by omega) (by omega)]
      exact ih
/-- what act does: its answer and the block behind it -/
noncomputable def lActZ (B snap : Int → Int) (x y z : Int) : Int × (Int → Int) :=
  if z < 0 ∨ 9 < z then kIns B (lup (lsh x 4) (B 0 + 1)) (lup y 12) (if 0 < kCols B (lup (lsh x 4) (B 0 + 1)) then lup (lsh y 4) 14 - 1 else -1) (if 1 < kCols B (lup (lsh x 4) (B 0 + 1)) then lup (lsh y 8) 14 - 1 else -1)
  else if z = 0 then kAddT B
  else if z = 1 then kAddR B (lup (lsh x 4) (B 0 + 1)) (lup y (B 0 + 1)) (lup (lsh y 3) 6) (if lan (lsh y 8) 1 = 1 then 1 else 0) (lup (lsh y 9) 14 - 1)
  else if z = 2 then kSetR B (lup y (B 1 + 1)) (lup (lsh y 4) 6)
  else if z = 3 then kSetR B (lup y (B 1 + 1)) (lup (lsh y 4) 6)
  else if z = 4 then kUpd B (lup (lsh x 4) (B 0 + 1)) (lup y 12) (lup (lsh y 12) 3) (lup (lsh y 4) 14 - 1)
  else if z = 5 then kUpd B (lup (lsh x 4) (B 0 + 1)) (lup y 12) (lup (lsh y 12) 3) (lup (lsh y 4) 14 - 1)
  else if z = 6 then kUpd B (lup (lsh x 4) (B 0 + 1)) (lup y 12) (lup (lsh y 12) 3) (lup (lsh y 4) 14 - 1)
  else if z = 7 then kDele B (lup (lsh x 4) (B 0 + 1)) (lup y 12)
  else if z = 8 then kDele B (lup (lsh x 4) (B 0 + 1)) (lup y 12)
  else if lan y 7 = 0 then (kAll snap, snap) else kDele B (lup (lsh x 4) (B 0 + 1)) (lup y 12)
noncomputable def lAct (B snap : Int → Int) (x y : Int) : Int × (Int → Int) := lActZ B snap x y (lup x 16)
theorem cAct_mono {Q2 : Option mm_V → mm_S → Prop} {r : Int × (Int → Int)} (hq : ∀ (z : Int) (m2 : mm_M) (h2 : mm_H), Q (some (.inl z)) (mm_ms0 m2 h2) → Q2 (some (.inl z)) (mm_ms0 m2 h2)) (h1 : cAct mi h Q Bs n r) : cAct mi h Q2 Bs n r :=
  ⟨fun a m2 b c d => hq _ _ _ (h1.1 a m2 b c d), fun a m2 h2 b c d => hq _ _ _ (h1.2 a m2 h2 b c d)⟩
theorem kAll_nn (hW : kWr B) : 0 ≤ kAll B ∧ kAll B ≤ 600 := by
  have h0 := hW.1
  have := kAllN_in B (B 0).toNat
  unfold kAll
  omega
set_option maxHeartbeats 4000000 in
theorem sp156 (hR : cRel mi h Bs n) (h03 : mi 0 3 ≠ 0) {x y : Int} (hq : cAct mi h Q Bs n (lAct (Bs 0) (Bs 5) x y)) : mcl X 156 [.inr (some 0), .inl x, .inl y] (mm_ms0 mi h) Q := by
  have hS := hR.2.1.1
  have w0 := hS.1.1.1
  have w1 := hS.1.1.2.1
  have u1 := lup_in (v := lsh y 4) (n := 14) (by decide)
  have u2 := lup_in (v := lsh y 8) (n := 14) (by decide)
  have u3 := lup_in (v := lsh y 9) (n := 14) (by decide)
  unfold lAct at hq
  rw [c156, b156_0]
  refine sp78 hS ?_
  rw [kTotC_0, mm_psh_i, b156_8, mm_wi (z := Bs 0 0 + 1) (by omega) (by omega), sp155 (by omega), mm_psh_i, b156_13, sp155 (by decide), mm_psh_i, b156_20, sp155 (by decide), mm_psh_i, b156_30, sp155 (by decide), mm_psh_i, b156_43, sp155 (by decide), mm_psh_i, b156_53]
  rw [show (Int32.ofInt x >>> (Int32.ofInt 4 &&& 31)).toInt = lsh x 4 from rfl, show (Int32.ofInt y >>> (Int32.ofInt 4 &&& 31)).toInt = lsh y 4 from rfl, show (Int32.ofInt y >>> (Int32.ofInt 8 &&& 31)).toInt = lsh y 8 from rfl]
  rw [mm_wi (z := lup (lsh y 4) 14 - 1) (by omega) (by omega), mm_wi (z := lup (lsh y 8) 14 - 1) (by omega) (by omega)]
  generalize lup x 16 = z at hq ⊢
  have del : cAct mi h Q Bs n (kDele (Bs 0) (lup (lsh x 4) (Bs 0 0 + 1)) (lup y 12)) → mwp X 156 206 [some (.inr (some 0)), some (.inl x), some (.inl y), some (.inl (lup (lsh x 4) (Bs 0 0 + 1))), some (.inl (lup y 12)), some (.inl (lup (lsh y 4) 14 - 1)), some (.inl (lup (lsh y 8) 14 - 1)), none] [] (mm_ms0 mi h) Q := by
    intro hq
    rw [b156_206]
    refine sp65 hR (cAct_mono (fun z m2 h2 q => ?_) hq)
    rw [mm_psh_i, b156_213]
    exact q
  have upd : cAct mi h Q Bs n (kUpd (Bs 0) (lup (lsh x 4) (Bs 0 0 + 1)) (lup y 12) (lup (lsh y 12) 3) (lup (lsh y 4) 14 - 1)) → mwp X 156 188 [some (.inr (some 0)), some (.inl x), some (.inl y), some (.inl (lup (lsh x 4) (Bs 0 0 + 1))), some (.inl (lup y 12)), some (.inl (lup (lsh y 4) 14 - 1)), some (.inl (lup (lsh y 8) 14 - 1)), none] [] (mm_ms0 mi h) Q := by
    intro hq
    rw [b156_188, sp155 (by decide), mm_psh_i, b156_200]
    refine sp64 hR (cAct_mono (fun z m2 h2 q => ?_) hq)
    rw [mm_psh_i, b156_205]
    exact q
  have rul : cAct mi h Q Bs n (kSetR (Bs 0) (lup y (Bs 0 1 + 1)) (lup (lsh y 4) 6)) → mwp X 156 164 [some (.inr (some 0)), some (.inl x), some (.inl y), some (.inl (lup (lsh x 4) (Bs 0 0 + 1))), some (.inl (lup y 12)), some (.inl (lup (lsh y 4) 14 - 1)), some (.inl (lup (lsh y 8) 14 - 1)), none] [] (mm_ms0 mi h) Q := by
    intro hq
    rw [b156_164]
    refine sp78 hS ?_
    rw [kTotC_1, mm_psh_i, b156_171, mm_wi (z := Bs 0 1 + 1) (by omega) (by omega), sp155 (by omega), mm_psh_i, b156_176, sp155 (by decide), mm_psh_i, b156_184]
    refine sp62 hR (cAct_mono (fun z m2 h2 q => ?_) hq)
    rw [mm_psh_i, b156_187]
    exact q
  unfold lActZ at hq
  by_cases qd : z < 0 ∨ 9 < z
  · rw [if_pos qd] at hq
    rw [if_pos qd, b156_236]
    refine sp157 hS ?_
    rw [mm_psh_i, b156_241]
    have fin : ∀ v0 v1 : Int, v0 = (if 0 < kCols (Bs 0) (lup (lsh x 4) (Bs 0 0 + 1)) then lup (lsh y 4) 14 - 1 else -1) → v1 = (if 1 < kCols (Bs 0) (lup (lsh x 4) (Bs 0 0 + 1)) then lup (lsh y 8) 14 - 1 else -1) → mwp X 156 270 [some (.inr (some 0)), some (.inl x), some (.inl y), some (.inl (lup (lsh x 4) (Bs 0 0 + 1))), some (.inl (lup y 12)), some (.inl (lup (lsh y 4) 14 - 1)), some (.inl (lup (lsh y 8) 14 - 1)), some (.inl (kCols (Bs 0) (lup (lsh x 4) (Bs 0 0 + 1))))] [.inl v1, .inl v0, .inl (lup y 12), .inl (lup (lsh x 4) (Bs 0 0 + 1)), .inr (some 0)] (mm_ms0 mi h) Q := by
      intro v0 v1 e0 e1
      subst e0
      subst e1
      rw [b156_270]
      refine sp63 hR (cAct_mono (fun z m2 h2 q => ?_) hq)
      rw [mm_psh_i, b156_273]
      exact q
    have snd : ∀ v0 : Int, v0 = (if 0 < kCols (Bs 0) (lup (lsh x 4) (Bs 0 0 + 1)) then lup (lsh y 4) 14 - 1 else -1) → mwp X 156 258 [some (.inr (some 0)), some (.inl x), some (.inl y), some (.inl (lup (lsh x 4) (Bs 0 0 + 1))), some (.inl (lup y 12)), some (.inl (lup (lsh y 4) 14 - 1)), some (.inl (lup (lsh y 8) 14 - 1)), some (.inl (kCols (Bs 0) (lup (lsh x 4) (Bs 0 0 + 1))))] [.inl v0, .inl (lup y 12), .inl (lup (lsh x 4) (Bs 0 0 + 1)), .inr (some 0)] (mm_ms0 mi h) Q := by
      intro v0 e0
      rw [b156_258]
      by_cases q1 : 1 < kCols (Bs 0) (lup (lsh x 4) (Bs 0 0 + 1))
      · rw [if_pos q1, b156_264]
        exact fin _ _ e0 (by rw [if_pos q1])
      · rw [if_neg q1, b156_269]
        exact fin _ _ e0 (by rw [if_neg q1])
    by_cases q0 : 0 < kCols (Bs 0) (lup (lsh x 4) (Bs 0 0 + 1))
    · rw [if_pos q0, b156_252]
      exact snd _ (by rw [if_pos q0])
    · rw [if_neg q0, b156_257]
      exact snd _ (by rw [if_neg q0])
  · rw [if_neg qd] at hq
    rw [if_neg qd]
    by_cases q0 : z = 0
    · rw [if_pos q0] at hq
      rw [if_pos q0, b156_108]
      refine sp60 hR (cAct_mono (fun z m2 h2 q => ?_) hq)
      rw [mm_psh_i, b156_112]
      exact q
    · rw [if_neg q0] at hq
      rw [if_neg q0]
      by_cases q1 : z = 1
      · rw [if_pos q1] at hq
        rw [if_pos q1, b156_113]
        refine sp78 hS ?_
        rw [kTotC_0, mm_psh_i, b156_121, mm_wi (z := Bs 0 0 + 1) (by omega) (by omega), sp155 (by omega), mm_psh_i, b156_126, sp155 (by decide), mm_psh_i, b156_134]
        have fin : ∀ b : Int, b = (if lan (lsh y 8) 1 = 1 then 1 else 0) → mwp X 156 149 [some (.inr (some 0)), some (.inl x), some (.inl y), some (.inl (lup (lsh x 4) (Bs 0 0 + 1))), some (.inl (lup y 12)), some (.inl (lup (lsh y 4) 14 - 1)), some (.inl (lup (lsh y 8) 14 - 1)), none] [.inl b, .inl (lup (lsh y 3) 6), .inl (lup y (Bs 0 0 + 1)), .inl (lup (lsh x 4) (Bs 0 0 + 1)), .inr (some 0)] (mm_ms0 mi h) Q := by
          intro b e
          subst e
          rw [b156_149, sp155 (by decide), mm_psh_i, b156_158]
          show mcl X 61 [.inr (some 0), _, _, _, _, .inl (mm_w (lup (lsh y 9) 14 - 1))] _ _
          rw [mm_wi (z := lup (lsh y 9) 14 - 1) (by omega) (by omega)]
          refine sp61 hR (cAct_mono (fun z m2 h2 q => ?_) hq)
          rw [mm_psh_i, b156_163]
          exact q
        by_cases qb : lan (lsh y 8) 1 = 1
        · have qb' : (Int32.ofInt ((Int32.ofInt y >>> (Int32.ofInt 8 &&& 31)).toInt) &&& Int32.ofInt 1).toInt = 1 := qb
          rw [if_pos qb', b156_144]
          exact fin 1 (by rw [if_pos qb])
        · have qb' : ¬ (Int32.ofInt ((Int32.ofInt y >>> (Int32.ofInt 8 &&& 31)).toInt) &&& Int32.ofInt 1).toInt = 1 := qb
          rw [if_neg qb', b156_148]
          exact fin 0 (by rw [if_neg qb])
      · rw [if_neg q1] at hq
        rw [if_neg q1]
        by_cases q2 : z = 2
        · rw [if_pos q2] at hq
          rw [if_pos q2]
          exact rul hq
        · rw [if_neg q2] at hq
          rw [if_neg q2]
          by_cases q3 : z = 3
          · rw [if_pos q3] at hq
            rw [if_pos q3]
            exact rul hq
          · rw [if_neg q3] at hq
            rw [if_neg q3]
            by_cases q4 : z = 4
            · rw [if_pos q4] at hq
              rw [if_pos q4]
              exact upd hq
            · rw [if_neg q4] at hq
              rw [if_neg q4]
              by_cases q5 : z = 5
              · rw [if_pos q5] at hq
                rw [if_pos q5]
                exact upd hq
              · rw [if_neg q5] at hq
                rw [if_neg q5]
                by_cases q6 : z = 6
                · rw [if_pos q6] at hq
                  rw [if_pos q6]
                  exact upd hq
                · rw [if_neg q6] at hq
                  rw [if_neg q6]
                  by_cases q7 : z = 7
                  · rw [if_pos q7] at hq
                    rw [if_pos q7]
                    exact del hq
                  · rw [if_neg q7] at hq
                    rw [if_neg q7]
                    by_cases q8 : z = 8
                    · rw [if_pos q8] at hq
                      rw [if_pos q8]
                      exact del hq
                    · rw [if_neg q8] at hq
                      rw [if_neg q8, b156_214]
                      by_cases q9 : lan y 7 = 0
                      · have q9' : (Int32.ofInt y &&& Int32.ofInt 7).toInt = 0 := q9
                        rw [if_pos q9] at hq
                        rw [if_pos q9', b156_221]
                        have hsn := hR.2.2.2 h03
                        have hnn := (kAll_nn hsn.1.1.1).1
                        refine sp71 hR (fun z => absurd z h03) (fun _ m2 h2 a b c => ?_)
                        rw [mm_psh_i, b156_225, b156_235]
                        exact hq.2 (by dsimp only; omega) m2 h2 a b c
                      · have q9' : ¬ (Int32.ofInt y &&& Int32.ofInt 7).toInt = 0 := q9
                        rw [if_neg q9] at hq
                        rw [if_neg q9', b156_228]
                        refine sp65 hR (cAct_mono (fun z m2 h2 q => ?_) hq)
                        rw [mm_psh_i, b156_235]
                        exact q
end LI
