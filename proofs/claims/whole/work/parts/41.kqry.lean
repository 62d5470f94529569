-- THE REFERENCE: what it is asked, without a deletion
section KY
variable {X : Nat × (Nat → Int)} {mi : mm_M} {h : mm_H} {Q : Option mm_V → mm_S → Prop} {b : Int}
def kGiveR (B : Int → Int) (t : Int) : Int := if 0 ≤ t ∧ t < B 0 then kRows B t else -2
theorem sp138 (hM : mOk (kBlk mi 0)) {t : Int} (hq : Q (some (.inl (kGiveR (kBlk mi 0) t))) (mm_ms0 mi h)) : mcl X 138 [.inr (some 69), .inl t] (mm_ms0 mi h) Q := by
  have w0 := hM.1.1
  unfold kGiveR at hq
  rw [c138, b138_0, sp92 kb0 w0, mm_psh_i, b138_6, mm_ite0, ← kBlk_0]
  by_cases q1 : 0 ≤ t ∧ t < kBlk mi 0 0
  · rw [if_pos q1] at hq
    rw [if_pos q1, b138_9]
    refine sp100 kb0 (by omega) ?_
    rw [mm_psh_i, b138_15, b138_20, ← kBlk_0]
    exact hq
  · rw [if_neg q1] at hq
    rw [if_neg q1, b138_18, b138_20]
    exact hq
def kRank (B : Int → Int) (t : Int) (n : Nat) : Int := cnt n (fun k => decide (kIsRow B t k))
def kKeyP (B : Int → Int) (t r : Int) (k : Nat) : Bool := decide (kIsRow B t k ∧ kRank B t k = r)
def kKeyAt (B : Int → Int) (t r : Int) : Int := if ¬ (0 ≤ t ∧ t < B 0) then -2 else if r < 0 then -3 else match fnx (kKeyP B t r) 100 0 with
  | some k => k
  | none => -9
theorem sp139 (hM : mOk (kBlk mi 0)) {t r : Int} (hr : -2147483648 ≤ r ∧ r < 2147483648) (hq : Q (some (.inl (kKeyAt (kBlk mi 0) t r))) (mm_ms0 mi h)) : mcl X 139 [.inr (some 69), .inl t, .inl r] (mm_ms0 mi h) Q := by
  have w0 := hM.1.1
  unfold kKeyAt at hq
  rw [c139, b139_0, sp92 kb0 w0, mm_psh_i, b139_6, mm_ite0, ← kBlk_0]
  by_cases q1 : 0 ≤ t ∧ t < kBlk mi 0 0
  · rw [if_neg (fun z => z q1)] at hq
    rw [if_pos q1, b139_12]
    by_cases q2 : r < 0
    · rw [if_pos q2] at hq
      rw [if_pos q2, b139_16]
      exact hq
    · rw [if_neg q2] at hq
      rw [if_neg q2, b139_19]
      refine mm_for (fun n => ∀ (r2 : Int) (o5 : Option mm_V), r2 = r - kRank (kBlk mi 0) t n → 0 ≤ r2 → fnx (kKeyP (kBlk mi 0) t r) 100 0 = fnx (kKeyP (kBlk mi 0) t r) 100 n → mwp X 139 24 [some (.inr (some 69)), some (.inl t), some (.inl r), some (.inl r2), some (.inl (n : Int)), o5] [] (mm_ms0 mi h) Q) 100 ?_ ?_ 0 (Nat.zero_le _) r none (by unfold kRank; rw [cnt_zero]; omega) (by omega) rfl
      · intro r2 o5 e1 e2 e3
        rw [b139_24, if_neg (by omega), b139_72]
        rw [e3, fnx_end (by omega)] at hq
        exact hq
      · intro n hn ih r2 o5 e1 e2 e3
        have hc0 : 0 ≤ kRank (kBlk mi 0) t n ∧ kRank (kBlk mi 0) t n ≤ n := ⟨cnt_nn _ _, cnt_le _ _⟩
        have hsucc : kRank (kBlk mi 0) t (n + 1) = kRank (kBlk mi 0) t n + (if kIsRow (kBlk mi 0) t n then 1 else 0) := by
          unfold kRank
          rw [cnt_succ]
          congr 1
          by_cases q : kIsRow (kBlk mi 0) t n
          · rw [if_pos q, if_pos (decide_eq_true q)]
          · rw [if_neg q, if_neg (by rw [decide_eq_true_eq]; exact q)]
        rw [b139_24, if_pos (by omega), b139_31, sp94' kb0 hM.1, mm_psh_i, b139_39, mm_ite0, ← kBlk_0]
        by_cases q3 : kIsRow (kBlk mi 0) t n
        · rw [if_pos q3] at hsucc
          rw [if_pos q3, if_pos q3, b139_46]
          by_cases q4 : r2 = 0
          · rw [if_pos q4, b139_50]
            rw [e3, fnx_self (by omega) (decide_eq_true ⟨q3, by omega⟩)] at hq
            exact hq
          · rw [if_neg q4, b139_53, if_neg (by omega), b139_59, b139_64, mm_wi (z := r2 - 1) (by omega) (by omega), mm_wi (z := (n : Int) + 1) (by omega) (by omega)]
            exact ih _ _ (by omega) (by omega) (by rw [e3, fnx_next (by omega) (decide_eq_false (fun z => by have := z.2; omega))])
        · rw [if_neg q3] at hsucc
          rw [if_neg q3, if_neg q3, b139_53, if_pos rfl, b139_63, b139_64, mm_wi (z := r2 - 0) (by omega) (by omega), mm_wi (z := (n : Int) + 1) (by omega) (by omega)]
          exact ih _ _ (by omega) (by omega) (by rw [e3, fnx_next (by omega) (decide_eq_false (fun z => q3 z.1))])
  · rw [if_pos q1] at hq
    rw [if_neg q1, b139_9]
    exact hq
def kGiveV (B : Int → Int) (t k c : Int) : Int := if kIsRow B t k ∧ 0 ≤ c ∧ c ≤ kCols B t - 1 then kV B (100 * t + k) c else -2
theorem sp140 (hM : mOk (kBlk mi 0)) {t k c : Int} (hq : Q (some (.inl (kGiveV (kBlk mi 0) t k c))) (mm_ms0 mi h)) : mcl X 140 [.inr (some 69), .inl t, .inl k, .inl c] (mm_ms0 mi h) Q := by
  have w0 := hM.1.1
  have hcol := kCols_in hM.1 t
  unfold kGiveV at hq
  rw [c140, b140_0, sp94' kb0 hM.1, mm_psh_i, b140_7, mm_ite0, ← kBlk_0]
  by_cases q1 : kIsRow (kBlk mi 0) t k
  · rw [if_pos q1, b140_10]
    refine sp98 kb0 hM.1 ?_
    rw [mm_psh_i, b140_18, ← kBlk_0, mm_wi (z := kCols (kBlk mi 0) t - 1) (by omega) (by omega), sp91, mm_psh_i, b140_23, mm_ite0]
    by_cases q2 : 0 ≤ c ∧ c ≤ kCols (kBlk mi 0) t - 1
    · rw [if_pos (⟨q1, q2⟩ : kIsRow (kBlk mi 0) t k ∧ 0 ≤ c ∧ c ≤ kCols (kBlk mi 0) t - 1)] at hq
      rw [if_pos q2, b140_26, b140_31, if_neg (by decide), b140_38, mm_wi (z := 100 * t) (by omega) (by omega), mm_wi (z := 100 * t + k) (by omega) (by omega), sp96 kb0 (by omega) ⟨q1.2.2, (hM.1.2.2.2 _ (by omega) (by omega)).2⟩, mm_psh_i, b140_50, b140_55]
      exact hq
    · rw [if_neg (fun z => q2 z.2)] at hq
      rw [if_neg q2, b140_30, b140_31, if_pos rfl, b140_53, b140_55]
      exact hq
  · rw [if_neg (fun z => q1 z.1)] at hq
    rw [if_neg q1, b140_30, b140_31, if_pos rfl, b140_53, b140_55]
    exact hq
def kGiveC (B : Int → Int) (r k : Int) : Int := if (0 ≤ r ∧ r < B 1) ∧ kIsRow B (kOf B r 1) k then cnt 100 (fun j => decide (kIsCh B r j (100 * kOf B r 1 + k))) else -2
theorem sp141 (hM : mOk (kBlk mi 0)) {r k : Int} (hq : Q (some (.inl (kGiveC (kBlk mi 0) r k))) (mm_ms0 mi h)) : mcl X 141 [.inr (some 69), .inl r, .inl k] (mm_ms0 mi h) Q := by
  have w0 := hM.1.1
  have w1 := hM.1.2.1
  unfold kGiveC at hq
  rw [c141, b141_0, sp93 w1, mm_psh_i, b141_5, mm_ite0, ← kBlk_0]
  by_cases q1 : 0 ≤ r ∧ r < kBlk mi 0 1
  · rw [if_pos q1, b141_8, sp95 kb0 (by omega) (by omega), mm_psh_i, b141_17, sp94' kb0 hM.1, mm_psh_i, b141_21, mm_ite0, ← kBlk_0]
    by_cases q2 : kIsRow (kBlk mi 0) (kOf (kBlk mi 0) r 1) k
    · rw [if_pos (⟨q1, q2⟩ : (0 ≤ r ∧ r < kBlk mi 0 1) ∧ kIsRow (kBlk mi 0) (kOf (kBlk mi 0) r 1) k)] at hq
      rw [if_pos q2, b141_27]
      refine mm_for (fun n => mwp X 141 32 [some (.inr (some 69)), some (.inl r), some (.inl k), some (.inl (cnt n (fun j => decide (kIsCh (kBlk mi 0) r j (100 * kOf (kBlk mi 0) r 1 + k))))), some (.inl (n : Int))] [] (mm_ms0 mi h) Q) 100 ?_ ?_ 0 (Nat.zero_le _)
      · rw [b141_32, if_neg (by omega), b141_76]
        exact hq
      · intro n hn ih
        have c1 := cnt_nn n (fun j => decide (kIsCh (kBlk mi 0) r j (100 * kOf (kBlk mi 0) r 1 + k)))
        have c2 := cnt_le n (fun j => decide (kIsCh (kBlk mi 0) r j (100 * kOf (kBlk mi 0) r 1 + k)))
        have q21 := q2.1
        have q22 := q2.2.1
        rw [b141_32, if_pos (by omega), b141_39, sp95 kb0 (by omega) (by omega), mm_psh_i, b141_54, ← kBlk_0, mm_wi (z := 100 * kOf (kBlk mi 0) r 1) (by omega) (by omega), mm_wi (z := 100 * kOf (kBlk mi 0) r 1 + k) (by omega) (by omega)]
        refine sp102 kb0 hM.1 (by rw [← kBlk_0]; exact q1) (by omega) (by omega) ?_
        rw [mm_psh_i, b141_60, mm_ite0, ← kBlk_0]
        rw [cnt_succ] at ih
        by_cases q3 : kIsCh (kBlk mi 0) r n (100 * kOf (kBlk mi 0) r 1 + k)
        · rw [if_pos (decide_eq_true q3)] at ih
          rw [if_pos q3, b141_63, b141_68, mm_wi (by omega) (by omega), mm_wi (by omega) (by omega)]
          exact ih
        · rw [if_neg (by rw [decide_eq_true_eq]; exact q3)] at ih
          rw [if_neg q3, b141_67, b141_68, mm_wi (by omega) (by omega), mm_wi (by omega) (by omega)]
          exact ih
    · rw [if_neg (fun z => q2 z.2)] at hq
      rw [if_neg q2, b141_24]
      exact hq
  · rw [if_neg (fun z => q1 z.1)] at hq
    rw [if_neg q1, b141_24]
    exact hq
def kGiveF (B : Int → Int) (r w : Int) : Int := if ¬ (0 ≤ r ∧ r < B 1) then -2 else if 0 ≤ w ∧ w ≤ 5 then kOf B r w else -3
theorem sp142 (hM : mOk (kBlk mi 0)) {r w : Int} (hq : Q (some (.inl (kGiveF (kBlk mi 0) r w))) (mm_ms0 mi h)) : mcl X 142 [.inr (some 69), .inl r, .inl w] (mm_ms0 mi h) Q := by
  have w1 := hM.1.2.1
  unfold kGiveF at hq
  rw [c142, b142_0, sp93 w1, mm_psh_i, b142_5, mm_ite0, ← kBlk_0]
  by_cases q1 : 0 ≤ r ∧ r < kBlk mi 0 1
  · rw [if_neg (fun z => z q1)] at hq
    rw [if_pos q1, b142_11, sp91, mm_psh_i, b142_17, mm_ite0]
    by_cases q2 : 0 ≤ w ∧ w ≤ 5
    · rw [if_pos q2] at hq
      rw [if_pos q2, b142_20, sp95 kb0 (by omega) (by omega), mm_psh_i, b142_27, b142_32]
      exact hq
    · rw [if_neg q2] at hq
      rw [if_neg q2, b142_30, b142_32]
      exact hq
  · rw [if_pos q1] at hq
    rw [if_neg q1, b142_8]
    exact hq
def kGiveD (B : Int → Int) (i : Int) : Int := if i < 0 then -3 else if i < B 5 then B (78 + i) else -9
theorem sp143 (h5 : kBlk mi 0 5 ≤ 120) {i : Int} (hq : Q (some (.inl (kGiveD (kBlk mi 0) i))) (mm_ms0 mi h)) : mcl X 143 [.inr (some 69), .inl i] (mm_ms0 mi h) Q := by
  unfold kGiveD at hq
  rw [c143, b143_0]
  by_cases q1 : i < 0
  · rw [if_pos q1] at hq
    rw [if_pos q1, b143_4]
    exact hq
  · rw [if_neg q1] at hq
    rw [if_neg q1, b143_7]
    refine ⟨by omega, ?_⟩
    rw [b143_14, show mi 70 (Int.toNat 5) = kBlk mi 0 5 from mB_0 (by omega)]
    by_cases q2 : i < kBlk mi 0 5
    · rw [if_pos q2] at hq
      rw [if_pos q2, b143_17, mm_wi (z := 78 + i) (by omega) (by omega)]
      refine ⟨by omega, ?_⟩
      rw [b143_26, b143_31, mB_0 (mi := mi) (z := 78 + i) (by omega)]
      exact hq
    · rw [if_neg q2] at hq
      rw [if_neg q2, b143_29, b143_31]
      exact hq
def kNulls (B : Int → Int) : Int := cnt (gR B) (fun e => decide (gRow B e ∧ gVal B e = -1))
theorem sp144 (hM : mOk (kBlk mi 0)) (hq : Q (some (.inl (kNulls (kBlk mi 0)))) (mm_ms0 mi h)) : mcl X 144 [.inr (some 69)] (mm_ms0 mi h) Q := by
  have hW := hM.1
  have w1 := hW.2.1
  have w0 := hW.1
  have hg : (gR (kBlk mi 0) : Int) = 100 * kBlk mi 0 1 := by unfold gR; omega
  rw [c144, b144_0]
  refine mm_for (fun n => ∀ o3 : Option mm_V, mwp X 144 4 [some (.inr (some 69)), some (.inl (cnt n (fun e => decide (gRow (kBlk mi 0) e ∧ gVal (kBlk mi 0) e = -1)))), some (.inl (n : Int)), o3] [] (mm_ms0 mi h) Q) (gR (kBlk mi 0)) ?_ ?_ 0 (Nat.zero_le _) none
  · intro o3
    rw [b144_4]
    refine ⟨by omega, ?_⟩
    rw [b144_13, show mi 70 (Int.toNat 1) = kBlk mi 0 1 from mB_0 (by omega), mm_wi (by omega) (by omega), if_neg (by omega), b144_83]
    exact hq
  · intro n hn ih o3
    obtain ⟨hch, hr, hk, hc, hne, hv, t1, t2⟩ := g_at hW hn
    have k0 := hk.1
    have c1 := cnt_nn n (fun e => decide (gRow (kBlk mi 0) e ∧ gVal (kBlk mi 0) e = -1))
    have c2 := cnt_le n (fun e => decide (gRow (kBlk mi 0) e ∧ gVal (kBlk mi 0) e = -1))
    rw [cnt_succ] at ih
    rw [b144_4]
    refine ⟨by omega, ?_⟩
    rw [b144_13, show mi 70 (Int.toNat 1) = kBlk mi 0 1 from mB_0 (by omega), mm_wi (by omega) (by omega), if_pos (by omega), b144_17, t1, sp95 kb0 (by omega) (by omega), mm_psh_i, b144_29, t2, ← kBlk_0]
    rw [mm_wi (z := 100 * kOf (kBlk mi 0) ((n / 100 : Nat) : Int) 0) (by omega) (by omega), mm_wi (z := 100 * kOf (kBlk mi 0) ((n / 100 : Nat) : Int) 0 + ((n % 100 : Nat) : Int)) (by omega) (by omega)]
    rw [show 100 * kOf (kBlk mi 0) ((n / 100 : Nat) : Int) 0 + ((n % 100 : Nat) : Int) = gCh (kBlk mi 0) n from rfl, mm_wi (z := 198 + gCh (kBlk mi 0) n) (by omega) (by omega)]
    refine ⟨by omega, ?_⟩
    rw [b144_47, mB_0 (mi := mi) (z := 198 + gCh (kBlk mi 0) n) (by omega), show kBlk mi 0 (198 + gCh (kBlk mi 0) n) = kCe (kBlk mi 0) (gCh (kBlk mi 0) n) from rfl]
    by_cases q1 : kCe (kBlk mi 0) (gCh (kBlk mi 0) n) < 0
    · rw [if_neg (by rw [decide_eq_true_eq]; exact fun z => by have := z.1; omega)] at ih
      rw [if_pos q1, b144_74, b144_75, mm_wi (by omega) (by omega), mm_wi (by omega) (by omega)]
      exact ih _
    · have hrow : gRow (kBlk mi 0) n := by show 0 ≤ kCe (kBlk mi 0) (gCh (kBlk mi 0) n); omega
      rw [if_neg q1, b144_50, t1, sp95 kb0 (by omega) (by omega), mm_psh_i, b144_63, sp96 kb0 hch ⟨hrow, hc.2⟩, mm_psh_i, b144_66, ← kBlk_0]
      by_cases q2 : gVal (kBlk mi 0) n = -1
      · rw [if_pos (decide_eq_true ⟨hrow, q2⟩)] at ih
        rw [if_pos q2, b144_70, b144_75, mm_wi (by omega) (by omega), mm_wi (by omega) (by omega)]
        exact ih _
      · rw [if_neg (by rw [decide_eq_true_eq]; exact fun z => q2 z.2)] at ih
        rw [if_neg q2, b144_74, b144_75, mm_wi (by omega) (by omega), mm_wi (by omega) (by omega)]
        exact ih _
end KY
