-- THE REFERENCE: what a deletion changes
def bUp (B : Int → Int) (w v : Int) : Int → Int := fun z => if z = w then v else B z
theorem bUp_ne {B : Int → Int} {w v z : Int} (h : z ≠ w) : bUp B w v z = B z := if_neg h
theorem bUp_at {B : Int → Int} {w v : Int} : bUp B w v w = v := if_pos rfl
theorem mB_in (mi : mm_M) {b z : Int} (hz : 0 ≤ z ∧ z < 798) : mB mi b z = mi 70 (b + z).toNat := by rw [mB, if_pos hz]
theorem mB_out (mi : mm_M) {b z : Int} (hz : ¬ (0 ≤ z ∧ z < 798)) : mB mi b z = 0 := by rw [mB, if_neg hz]
theorem mB_up {mi : mm_M} {b w v : Int} (hb : 0 ≤ b) (hw : 0 ≤ w ∧ w < 798) : mB (mm_up mi 70 (b + w).toNat v) b = bUp (mB mi b) w v := by
  funext z
  unfold bUp
  by_cases hz : 0 ≤ z ∧ z < 798
  · rw [mB_in _ hz, mB_in _ hz, mm_up_if]
    by_cases q : z = w
    · rw [if_pos q, if_pos (by rw [q])]
    · rw [if_neg q, if_neg (by omega)]
  · rw [mB_out _ hz, mB_out _ hz, if_neg (by omega)]
theorem mB_off {mi mi2 : mm_M} {b : Int} (h : ∀ k : Nat, b ≤ k → (k : Int) < b + 798 → mi2 70 k = mi 70 k) (hb : 0 ≤ b) : mB mi2 b = mB mi b := by
  funext z
  by_cases hz : 0 ≤ z ∧ z < 798
  · rw [mB_in _ hz, mB_in _ hz]
    exact h _ (by omega) (by omega)
  · rw [mB_out _ hz, mB_out _ hz]
/-- facts and counters of two blocks agree -/
def kSame (B B2 : Int → Int) : Prop := ∀ z, z < 198 → B2 z = B z
theorem kSame.rf {B : Int → Int} : kSame B B := fun _ _ => rfl
theorem kSame.of {B B2 : Int → Int} (h : kSame B B2) {r w : Int} (h1 : 6 + 6 * r + w < 198) : kOf B2 r w = kOf B r w := h _ h1
theorem kSame.R {B B2 : Int → Int} (h : kSame B B2) : gR B2 = gR B := by unfold gR; rw [h 1 (by decide)]
theorem kSame.ref {B B2 : Int → Int} (h : kSame B B2) {r : Int} (h1 : r < 12) (hk : kRef B r) : kRef B2 r := by
  unfold kRef at hk ⊢
  rw [h.of (by omega), h.of (by omega), h.of (by omega), h.of (by omega), h.of (by omega), h.of (by omega), h 0 (by decide)]
  exact hk
theorem kSame.ch {B B2 : Int → Int} (h : kSame B B2) (hW : kWr B) {e : Nat} (he : e < gR B) : gCh B2 e = gCh B e := by
  have h1 := hW.2.1
  unfold gR at he
  unfold gCh
  rw [h.of (by omega)]
theorem kSame.up {B : Int → Int} {x v : Int} (hx : 0 ≤ x) : kSame B (bUp B (198 + x) v) := fun z hz => bUp_ne (by omega)
theorem kSame.tr {B1 B2 B3 : Int → Int} (h : kSame B1 B2) (h2 : kSame B2 B3) : kSame B1 B3 := fun z hz => (h2 z hz).trans (h z hz)
theorem kWr.up {B : Int → Int} {x v : Int} (hW : kWr B) (hx : 0 ≤ x) (hv : -1 ≤ v ∧ v ≤ 10200) : kWr (bUp B (198 + x) v) := by
  have hs : kSame B (bUp B (198 + x) v) := kSame.up hx
  obtain ⟨h0, h1, h2, h3⟩ := hW
  refine ⟨by rw [hs 0 (by decide)]; exact h0, by rw [hs 1 (by decide)]; exact h1, fun r hr hr2 => ?_, fun y hy hy2 => ?_⟩
  · rw [hs 1 (by decide)] at hr2
    exact hs.ref (by omega) (h2 r hr hr2)
  · unfold kCe bUp
    split
    · exact hv
    · exact h3 y hy hy2
def gNew (B : Int → Int) (e : Nat) : Int := if kOf B ((e / 100 : Nat) : Int) 3 = 3 then -1 else kOf B ((e / 100 : Nat) : Int) 5
def kChg1 (B mk : Int → Int) (e : Nat) : Int → Int := if gHitU B mk e then bUp B (198 + gCh B e) (kLay B (gCh B e) (kOf B ((e / 100 : Nat) : Int) 2) (gNew B e)) else B
def kChg (B mk : Int → Int) : Nat → Int → Int
  | 0 => B
  | n + 1 => kChg1 (kChg B mk n) mk n
def kChgN (B mk : Int → Int) : Nat → Int
  | 0 => 0
  | n + 1 => kChgN B mk n + (if gHitU (kChg B mk n) mk n then 1 else 0)
theorem kChg_succ {B mk : Int → Int} {n : Nat} : kChg B mk (n + 1) = kChg1 (kChg B mk n) mk n := rfl
theorem kChgN_succ {B mk : Int → Int} {n : Nat} : kChgN B mk (n + 1) = kChgN B mk n + (if gHitU (kChg B mk n) mk n then 1 else 0) := rfl
theorem kChg1_no {B mk : Int → Int} {e : Nat} (h : ¬ gHitU B mk e) : kChg1 B mk e = B := if_neg h
theorem kChg1_yes {B mk : Int → Int} {e : Nat} (h : gHitU B mk e) : kChg1 B mk e = bUp B (198 + gCh B e) (kLay B (gCh B e) (kOf B ((e / 100 : Nat) : Int) 2) (gNew B e)) := if_pos h
theorem kLay_in {B : Int → Int} {x c v : Int} (h1 : 0 ≤ kCe B x ∧ kCe B x ≤ 10200) (hv : -1 ≤ v ∧ v ≤ 99) : 0 ≤ kLay B x c v ∧ kLay B x c v ≤ 10200 := by
  have e0 := kV_in2 (c := 0) h1
  have e1 := kV_in2 (c := 1) h1
  unfold kLay
  split <;> omega
theorem kChg1_wr {B mk : Int → Int} (hW : kWr B) {e : Nat} (he : e < gR B) : kWr (kChg1 B mk e) ∧ kSame B (kChg1 B mk e) := by
  obtain ⟨hch, hr, hk, hc, hne, hv, t1, t2⟩ := g_at hW he
  unfold kChg1
  split
  · rename_i q
    have hl := kLay_in (B := B) (x := gCh B e) (c := kOf B ((e / 100 : Nat) : Int) 2) (v := gNew B e) ⟨q.1.1, hc.2⟩ (by
      have := hk.2.2.2.2.2
      unfold gNew
      split <;> omega)
    exact ⟨hW.up hch.1 (by omega), kSame.up hch.1⟩
  · exact ⟨hW, kSame.rf⟩
theorem kChg_wr {B mk : Int → Int} (hW : kWr B) : ∀ n, n ≤ gR B → kWr (kChg B mk n) ∧ kSame B (kChg B mk n) := by
  intro n
  induction n with
  | zero => exact fun _ => ⟨hW, kSame.rf⟩
  | succ n ih =>
    intro hn
    obtain ⟨h1, h2⟩ := ih (by omega)
    obtain ⟨h3, h4⟩ := kChg1_wr (mk := mk) h1 (e := n) (by rw [h2.R]; omega)
    exact ⟨h3, h2.tr h4⟩
theorem kChgN_in (B mk : Int → Int) (n : Nat) : 0 ≤ kChgN B mk n ∧ kChgN B mk n ≤ n := by
  induction n with
  | zero => exact ⟨Int.le_refl _, Int.le_refl _⟩
  | succ n ih =>
    unfold kChgN
    split <;> omega
/-- nothing but one block, the marks' scratch and two fields has changed -/
def kFrB (b : Int) (mi0 mi : mm_M) : Prop := (∀ a, a ≠ 69 → a ≠ 70 → a ≠ 72 → a ≠ 73 → a ≠ 74 → a ≠ 75 → mi a = mi0 a) ∧ (∀ k, k ≠ 16 → k ≠ 17 → mi 69 k = mi0 69 k) ∧ ∀ k : Nat, ¬ (b ≤ k ∧ (k : Int) < b + 798) → mi 70 k = mi0 70 k
theorem kFrB.rf {b : Int} {mi : mm_M} : kFrB b mi mi := ⟨fun _ _ _ _ _ _ _ => rfl, fun _ _ _ => rfl, fun _ _ => rfl⟩
theorem kFrB.tr {b : Int} {m1 m2 m3 : mm_M} (h1 : kFrB b m1 m2) (h2 : kFrB b m2 m3) : kFrB b m1 m3 := ⟨fun a q1 q2 q3 q4 q5 q6 => (h2.1 a q1 q2 q3 q4 q5 q6).trans (h1.1 a q1 q2 q3 q4 q5 q6), fun k q1 q2 => (h2.2.1 k q1 q2).trans (h1.2.1 k q1 q2), fun k q => (h2.2.2 k q).trans (h1.2.2 k q)⟩
theorem kFr.toB {b : Int} {m1 m2 : mm_M} (h : kFr m1 m2) : kFrB b m1 m2 := ⟨fun a q1 q2 q3 q4 q5 q6 => h.1 a q1 q3 q4 q5 q6, h.2, fun k _ => by rw [h.1 70 (by decide) (by decide) (by decide) (by decide) (by decide)]⟩
theorem kFrB.up {b w v : Int} {mi : mm_M} (hb : 0 ≤ b) (hw : 0 ≤ w ∧ w < 798) : kFrB b mi (mm_up mi 70 (b + w).toNat v) := ⟨fun a _ q _ _ _ _ => mm_up_ne q, fun k _ _ => by rw [mm_up_ne (by decide)], fun k q => mm_up_at2 (by omega)⟩
theorem kFrB.other {b b2 : Int} {m1 m2 : mm_M} (h : kFrB b m1 m2) (hb2 : 0 ≤ b2) (hd : b2 + 798 ≤ b ∨ b + 798 ≤ b2) : mB m2 b2 = mB m1 b2 := mB_off (fun k h1 h2 => h.2.2 k (by omega)) hb2
section KCH
variable {X : Nat × (Nat → Int)} {mi : mm_M} {h : mm_H} {Q : Option mm_V → mm_S → Prop} {b : Int}
/-- the loop of changes, with or without laying -/
theorem sp108 (hb : kb b) (hW : kWr (mB mi b)) {f : Int} (hf : f = 0 ∨ f = 1) (h0 : f = 0 → Q (some (.inl (cnt (gR (mB mi b)) (fun e => decide (gHitU (mB mi b) (mA mi 72) e))))) (mm_ms0 mi h))
    (h1q : f = 1 → ∀ mi2, kFrB b mi mi2 → mi2 69 = mi 69 → mi2 75 = mi 75 → mi2 72 = mi 72 → mB mi2 b = kChg (mB mi b) (mA mi 72) (gR (mB mi b)) → Q (some (.inl (kChgN (mB mi b) (mA mi 72) (gR (mB mi b))))) (mm_ms0 mi2 h)) : mcl X 108 [.inr (some 69), .inl b, .inl f] (mm_ms0 mi h) Q := by
  have hb' := hb
  unfold kb at hb
  have h1 := hW.2.1
  have h6 := hW.1
  have hg : (gR (mB mi b) : Int) = 100 * mB mi b 1 := by unfold gR; omega
  rw [c108, b108_0]
  refine mm_for (fun n => ∀ (mi2 : mm_M) (c : Int) (o5 o6 o7 : Option mm_V), kFrB b mi mi2 → mi2 69 = mi 69 → mi2 75 = mi 75 → mi2 72 = mi 72 → (f = 0 → mi2 = mi ∧ c = cnt n (fun e => decide (gHitU (mB mi b) (mA mi 72) e))) → (f = 1 → mB mi2 b = kChg (mB mi b) (mA mi 72) n ∧ c = kChgN (mB mi b) (mA mi 72) n) → mwp X 108 5 [some (.inr (some 69)), some (.inl b), some (.inl f), some (.inl c), some (.inl n), o5, o6, o7] [] (mm_ms0 mi2 h) Q) (gR (mB mi b)) ?_ ?_ 0 (Nat.zero_le _) mi 0 none none none kFrB.rf rfl rfl rfl (fun _ => ⟨rfl, rfl⟩) (fun _ => ⟨rfl, rfl⟩)
  · intro mi2 c o5 o6 o7 hF e69 e75 e72 hc0 hc1
    have hB1 : mB mi2 b 1 = mB mi b 1 := by
      rcases hf with hf | hf
      · rw [(hc0 hf).1]
      · rw [(hc1 hf).1]
        exact (kChg_wr hW _ (Nat.le_refl _)).2 1 (by decide)
    rw [b108_5, mm_wi (by omega) (by omega)]
    refine ⟨by omega, ?_⟩
    rw [b108_17, mB_1 mi2 (by omega), hB1, mm_wi (by omega) (by omega), if_neg (by omega), b108_174]
    rcases hf with hf | hf
    · rw [(hc0 hf).1, (hc0 hf).2]
      exact h0 hf
    · rw [(hc1 hf).2]
      exact h1q hf mi2 hF e69 e75 e72 (hc1 hf).1
  · intro n hn ih mi2 c o5 o6 o7 hF e69 e75 e72 hc0 hc1
    -- the block as it stands
    have hst : ∃ B2, mB mi2 b = B2 ∧ kWr B2 ∧ kSame (mB mi b) B2 ∧ (f = 0 → B2 = mB mi b) ∧ (f = 1 → B2 = kChg (mB mi b) (mA mi 72) n) := by
      rcases hf with hf | hf
      · exact ⟨mB mi b, by rw [(hc0 hf).1], hW, kSame.rf, fun _ => rfl, fun z => by omega⟩
      · exact ⟨_, (hc1 hf).1, (kChg_wr hW n (by omega)).1, (kChg_wr hW n (by omega)).2, fun z => by omega, fun _ => rfl⟩
    obtain ⟨B2, hB2, hW2, hS2, hz0, hz1⟩ := hst
    have hn2 : n < gR B2 := by rw [hS2.R]; exact hn
    have hm2 : mA mi2 72 = mA mi 72 := by unfold mA; rw [e72]
    obtain ⟨hch, hr, hk, hc, hne, hv, t1, t2⟩ := g_at hW2 hn2
    have k0 := hk.1
    have k1 := hk.2.1
    have w0 := hW2.1
    have w1 := hW2.2.1
    have cin : 0 ≤ c ∧ c ≤ n := by
      rcases hf with hf | hf
      · rw [(hc0 hf).2]; exact ⟨cnt_nn _ _, cnt_le _ _⟩
      · rw [(hc1 hf).2]; exact kChgN_in _ _ _
    rw [b108_5, mm_wi (by omega) (by omega)]
    refine ⟨by omega, ?_⟩
    rw [b108_17, mB_1 mi2 (by omega), hB2, mm_wi (by omega) (by omega), if_pos (by omega), b108_21, t1, sp95 hb' (by omega) (by omega), hB2, mm_psh_i, b108_38, t2]
    rw [mm_wi (z := b + 198) (by omega) (by omega), mm_wi (z := 100 * kOf B2 ((n / 100 : Nat) : Int) 0) (by omega) (by omega), mm_wi (z := 100 * kOf B2 ((n / 100 : Nat) : Int) 0 + ((n % 100 : Nat) : Int)) (by omega) (by omega)]
    rw [show 100 * kOf B2 ((n / 100 : Nat) : Int) 0 + ((n % 100 : Nat) : Int) = gCh B2 n from rfl, mm_wi (z := b + 198 + gCh B2 n) (by omega) (by omega)]
    refine ⟨by omega, ?_⟩
    rw [b108_60, mB_2 mi2 (by omega), hB2, show B2 (198 + gCh B2 n) = kCe B2 (gCh B2 n) from rfl]
    -- no hit: on to the next, the block as it is
    have go : ¬ gHitU B2 (mA mi 72) n → ∀ o5 o6 o7 : Option mm_V, ∀ l5 l6 l7 : Int, o5 = some (.inl l5) → o6 = some (.inl l6) → o7 = some (.inl l7) → mwp X 108 168 [some (.inr (some 69)), some (.inl b), some (.inl f), some (.inl c), some (.inl n), o5, o6, o7] [] (mm_ms0 mi2 h) Q := by
      intro hno o5 o6 o7 l5 l6 l7 e5 e6 e7
      subst e5; subst e6; subst e7
      rw [b108_168, mm_wi (by omega) (by omega)]
      refine ih mi2 c _ _ _ hF e69 e75 e72 (fun z => ⟨(hc0 z).1, ?_⟩) (fun z => ⟨?_, ?_⟩)
      · rw [cnt_succ, if_neg (by rw [← hz0 z]; simp only [decide_eq_true_eq]; exact hno), (hc0 z).2]; omega
      · rw [hB2, kChg_succ, ← hz1 z, kChg1_no hno]
      · rw [kChgN_succ, ← hz1 z, if_neg hno, (hc1 z).2]; omega
    by_cases q1 : kCe B2 (gCh B2 n) < 0
    · rw [if_pos q1, b108_73, b108_92, if_pos rfl]
      exact go (fun z => by have : 0 ≤ kCe B2 (gCh B2 n) := z.1.1; omega) _ _ _ _ _ _ rfl rfl rfl
    · have hrow : gRow B2 n := by show 0 ≤ kCe B2 (gCh B2 n); omega
      obtain ⟨v1, v2⟩ := hv hrow
      rw [if_neg q1, b108_63]
      refine ⟨by omega, ?_⟩
      rw [b108_70, show mi2 72 (gCh B2 n).toNat = mA mi2 72 (gCh B2 n) from rfl, hm2]
      by_cases q2 : mA mi 72 (gCh B2 n) = 0
      · rw [if_pos q2, b108_77, sp95 hb' (by omega) (by omega), hB2, mm_psh_i, b108_89, sp96 hb' hch (by rw [hB2]; exact ⟨hrow, hc.2⟩), hB2, mm_psh_i, b108_92]
        rw [show kV B2 (gCh B2 n) (kOf B2 ((n / 100 : Nat) : Int) 2) = gVal B2 n from rfl]
        by_cases q3 : gVal B2 n = -1
        · rw [if_pos q3]
          exact go (fun z => z.1.2.1 q3) _ _ _ _ _ _ rfl rfl rfl
        · have hp := v2 q3
          rw [if_neg q3, b108_100, sp95 hb' (by omega) (by omega), hB2, mm_psh_i, b108_114, mm_wi (z := 100 * kOf B2 ((n / 100 : Nat) : Int) 1) (by omega) (by omega), show 100 * kOf B2 ((n / 100 : Nat) : Int) 1 + gVal B2 n = gPar B2 n from rfl, mm_wi (z := gPar B2 n) (by omega) (by omega)]
          refine ⟨by omega, ?_⟩
          rw [b108_119, show mi2 72 (gPar B2 n).toNat = mA mi2 72 (gPar B2 n) from rfl, hm2]
          by_cases q4 : mA mi 72 (gPar B2 n) = 0
          · rw [if_pos q4]
            exact go (fun z => z.1.2.2 q4) _ _ _ _ _ _ rfl rfl rfl
          · have hit : gHitU B2 (mA mi 72) n := ⟨⟨hrow, q3, q4⟩, q2⟩
            rw [if_neg q4, b108_122, mm_wi (z := c + 1) (by omega) (by omega)]
            rcases hf with hf | hf
            · rw [if_pos hf, b108_168, mm_wi (by omega) (by omega)]
              refine ih mi2 (c + 1) _ _ _ hF e69 e75 e72 (fun z => ⟨(hc0 z).1, ?_⟩) (fun z => by omega)
              rw [cnt_succ, if_pos (by rw [← hz0 z]; simp only [decide_eq_true_eq]; exact hit), (hc0 z).2]
            · have hnew : -1 ≤ gNew B2 n ∧ gNew B2 n ≤ 99 := by
                have := hk.2.2.2.2.2
                unfold gNew
                split <;> omega
              have hcol : kOf B2 ((n / 100 : Nat) : Int) 2 = 0 ∨ kOf B2 ((n / 100 : Nat) : Int) 2 = 1 := by
                have := hk.2.2.1
                omega
              have lay : ∀ v, v = gNew B2 n → mwp X 108 165 [some (.inr (some 69)), some (.inl b), some (.inl f), some (.inl (c + 1)), some (.inl n), some (.inl ((n / 100 : Nat) : Int)), some (.inl (gCh B2 n)), some (.inl (gVal B2 n))] [.inl v, .inl (kOf B2 ((n / 100 : Nat) : Int) 2), .inl (gCh B2 n), .inl b, .inr (some 69)] (mm_ms0 mi2 h) Q := by
                intro v hv2
                subst hv2
                rw [b108_165]
                refine sp97 hb' hch hcol hnew (by rw [hB2]; exact ⟨hrow, hc.2⟩) ?_
                rw [mm_psh_n, b108_168, mm_wi (by omega) (by omega), hB2, Int.add_assoc]
                refine ih _ (c + 1) _ _ _ (hF.tr (kFrB.up (by omega) (by omega))) ?_ ?_ ?_ (fun z => by omega) (fun z => ⟨?_, ?_⟩)
                · rw [mm_up_ne (by decide)]; exact e69
                · rw [mm_up_ne (by decide)]; exact e75
                · rw [mm_up_ne (by decide)]; exact e72
                · rw [mB_up (by omega) (by omega), hB2]
                  rw [kChg_succ, ← hz1 z, kChg1_yes hit]
                · rw [kChgN_succ, ← hz1 z, if_pos hit, (hc1 z).2]
              rw [if_neg (by omega), b108_129, sp95 hb' (by omega) (by omega), hB2, mm_psh_i, b108_141, sp95 hb' (by omega) (by omega), hB2, mm_psh_i, b108_149]
              by_cases q5 : kOf B2 ((n / 100 : Nat) : Int) 3 = 3
              · rw [if_pos q5, b108_153]
                exact lay _ (by unfold gNew; rw [if_pos q5])
              · rw [if_neg q5, b108_157, sp95 hb' (by omega) (by omega), hB2, mm_psh_i]
                exact lay _ (by unfold gNew; rw [if_neg q5])
      · rw [if_neg q2, b108_73, b108_92, if_pos rfl]
        exact go (fun z => q2 z.2) _ _ _ _ _ _ rfl rfl rfl
end KCH
