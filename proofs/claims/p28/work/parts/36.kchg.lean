-- THE REFERENCE: what a deletion changes
def bUp (B : Int → Int) (w v : Int) : Int → Int := fun z => if z = w then v else B z
theorem bUp_ne {B : Int → Int} {w v z : Int} (h : z ≠ w) : bUp B w v z = B z := if_neg h
theorem bUp_at {B : Int → Int} {w v : Int} : bUp B w v w = v := if_pos rfl
theorem mB_in (mi : mm_M) {b z : Int} (hz : 0 ≤ z ∧ z < 798) : mB mi b z = mi 70 (b + z).toNat := by rw [mB, if_pos hz]
theorem mB_out (mi : mm_M) {b z : Int} (hz : ¬ (0 ≤ z ∧ z < 798)) : mB mi b z = 0 := by rw [mB, if_neg hz]
theorem mB_up {mi : mm_M} {b w v : Int} (hb : 0 ≤ b) (hw : 0 ≤ w ∧ w < 798) : mB (mm_up mi 70 (b + w).toNat v) b = bUp (mB mi b) w v := by
  funext z
  unfold bUp
  by_cases hz : 0 ≤ z ∧ z < 798
  · rw [mB_in _ hz, mB_in _ hz, mm_up_if]
    by_cases q : z = w
    · rw [if_pos q, if_pos (by rw [q])]
    · rw [if_neg q, if_neg (by omega)]
  · rw [mB_out _ hz, mB_out _ hz, if_neg (by omega)]
theorem mB_off {mi mi2 : mm_M} {b : Int} (h : ∀ k : Nat, b ≤ k → (k : Int) < b + 798 → mi2 70 k = mi 70 k) (hb : 0 ≤ b) : mB mi2 b = mB mi b := by
  funext z
  by_cases hz : 0 ≤ z ∧ z < 798
  · rw [mB_in _ hz, mB_in _ hz]
    exact h _ (by omega) (by omega)
  · rw [mB_out _ hz, mB_out _ hz]
/-- facts and counters of two blocks agree -/
def kSame (B B2 : Int → Int) : Prop := ∀ z, z < 198 → B2 z = B z
theorem kSame.rf {B : Int → Int} : kSame B B := fun _ _ => rfl
theorem kSame.of {B B2 : Int → Int} (h : kSame B B2) {r w : Int} (h1 : 6 + 6 * r + w < 198) : kOf B2 r w = kOf B r w := h _ h1
theorem kSame.R {B B2 : Int → Int} (h : kSame B B2) : gR B2 = gR B := by unfold gR; rw [h 1 (by decide)]
theorem kSame.ref {B B2 : Int → Int} (h : kSame B B2) {r : Int} (h1 : r < 12) (hk : kRef B r) : kRef B2 r := by
  unfold kRef at hk ⊢
  rw [h.of (by omega), h.of (by omega), h.of (by omega), h.of (by omega), h.of (by omega), h.of (by omega), h 0 (by decide)]
  exact hk
theorem kSame.ch {B B2 : Int → Int} (h : kSame B B2) (hW : kWr B) {e : Nat} (he : e < gR B) : gCh B2 e = gCh B e := by
  have h1 := hW.2.1
  unfold gR at he
  unfold gCh
  rw [h.of (by omega)]
theorem kSame.up {B : Int → Int} {x v : Int} (hx : 0 ≤ x) : kSame B (bUp B (198 + x) v) := fun z hz => bUp_ne (by omega)
theorem kSame.tr {B1 B2 B3 : Int → Int} (h : kSame B1 B2) (h2 : kSame B2 B3) : kSame B1 B3 := fun z hz => (h2 z hz).trans (h z hz)
theorem kWr.up {B : Int → Int} {x v : Int} (hW : kWr B) (hx : 0 ≤ x) (hv : -1 ≤ v ∧ v ≤ 10200) : kWr (bUp B (198 + x) v) := by
  have hs : kSame B (bUp B (198 + x) v) := kSame.up hx
  obtain ⟨h0, h1, h2, h3⟩ := hW
  refine ⟨by rw [hs 0 (by decide)]; exact h0, by rw [hs 1 (by decide)]; exact h1, fun r hr hr2 => ?_, fun y hy hy2 => ?_⟩
  · rw [hs 1 (by decide)] at hr2
    exact hs.ref (by omega) (h2 r hr hr2)
  · unfold kCe bUp
    split
    · exact hv
    · exact h3 y hy hy2
def gNew (B : Int → Int) (e : Nat) : Int := if kOf B ((e / 100 : Nat) : Int) 3 = 3 then -1 else kOf B ((e / 100 : Nat) : Int) 5
def kChg1 (B mk : Int → Int) (e : Nat) : Int → Int := if gHitU B mk e then bUp B (198 + gCh B e) (kLay B (gCh B e) (kOf B ((e / 100 : Nat) : Int) 2) (gNew B e)) else B
def kChg (B mk : Int → Int) : Nat → Int → Int
  | 0 => B
  | n + 1 => kChg1 (kChg B mk n) mk n
def kChgN (B mk : Int → Int) : Nat → Int
  | 0 => 0
  | n + 1 => kChgN B mk n + (if gHitU (kChg B mk n) mk n then 1 else 0)
theorem kChg_succ {B mk : Int → Int} {n : Nat} : kChg B mk (n + 1) = kChg1 (kChg B mk n) mk n := rfl
theorem kChgN_succ {B mk : Int → Int} {n : Nat} : kChgN B mk (n + 1) = kChgN B mk n + (if gHitU (kChg B mk n) mk n then 1 else 0) := rfl
theorem kChg1_no {B mk : Int → Int} {e : Nat} (h : ¬ gHitU B mk e) : kChg1 B mk e = B := if_neg h
theorem kChg1_yes {B mk : Int → Int} {e : Nat} (h : gHitU B mk e) : kChg1 B mk e = bUp B (198 + gCh B e) (kLay B (gCh B e) (kOf B ((e / 100 : Nat) : Int) 2) (gNew B e)) := if_pos h
theorem kLay_in {B : Int → Int} {x c v : Int} (h1 : 0 ≤ kCe B x ∧ kCe B x ≤ 10200) (hv : -1 ≤ v ∧ v ≤ 99) : 0 ≤ kLay B x c v ∧ kLay B x c v ≤ 10200 := by
  have e0 := kV_in2 (c := 0) h1
  have e1 := kV_in2 (c := 1) h1
  unfold kLay
  split <;> omega
theorem kChg1_wr {B mk : Int → Int} (hW : kWr B) {e : Nat} (he : e < gR B) : kWr (kChg1 B mk e) ∧ kSame B (kChg1 B mk e) := by
  obtain ⟨hch, hr, hk, hc, hne, hv, t1, t2⟩ := g_at hW he
  unfold kChg1
  split
  · rename_i q
    have hl := kLay_in (B := B) (x := gCh B e) (c := kOf B ((e / 100 : Nat) : Int) 2) (v := gNew B e) ⟨q.1.1, hc.2⟩ (by
      have := hk.2.2.2.2.2
      unfold gNew
      split <;> omega)
    exact ⟨hW.up hch.1 (by omega), kSame.up hch.1⟩
  · exact ⟨hW, kSame.rf⟩
theorem kChg_wr {B mk : Int → Int} (hW : kWr B) : ∀ n, n ≤ gR B → kWr (kChg B mk n) ∧ kSame B (kChg B mk n) := by
  intro n
  induction n with
  | zero => exact fun _ => ⟨hW, kSame.rf⟩
  | succ n ih =>
    intro hn
    obtain ⟨h1, h2⟩ := ih (by omega)
    obtain ⟨h3, h4⟩ := kChg1_wr (mk := mk) h1 (e := n) (by rw [h2.R]; omega)
    exact ⟨h3, h2.tr h4⟩
theorem kChgN_in (B mk : Int → Int) (n : Nat) : 0 ≤ kChgN B mk n ∧ kChgN B mk n ≤ n := by
  induction n with
  | zero => exact ⟨Int.le_refl _, Int.le_refl _⟩
  | succ n ih =>
    unfold kChgN
    split <;> omega
/-- nothing but one block, the marks' scratch and two fields has changed -/
def kFrB (b : Int) (mi0 mi : mm_M) : Prop := (∀ a, a ≠ 69 → a ≠ 70 → a ≠ 72 → a ≠ 73 → a ≠ 74 → a ≠ 75 → mi a = mi0 a) ∧ (∀ k, k ≠ 16 → k ≠ 17 → mi 69 k = mi0 69 k) ∧ ∀ k : Nat, ¬ (b ≤ k ∧ (k : Int) < b + 798) → mi 70 k = mi0 70 k
theorem kFrB.rf {b : Int} {mi : mm_M} : kFrB b mi mi := ⟨fun _ _ _ _ _ _ _ => rfl, fun _ _ _ => rfl, fun _ _ => rfl⟩
theorem kFrB.tr {b : Int} {m1 m2 m3 : mm_M} (h1 : kFrB b m1 m2) (h2 : kFrB b m2 m3) : kFrB b m1 m3 := ⟨fun a q1 q2 q3 q4 q5 q6 => (h2.1 a q1 q2 q3 q4 q5 q6).trans (h1.1 a q1 q2 q3 q4 q5 q6), fun k q1 q2 => (h2.2.1 k q1 q2).trans (h1.2.1 k q1 q2), fun k q => (h2.2.2 k q).trans (h1.2.2 k q)⟩
theorem kFr.toB {b : Int} {m1 m2 : mm_M} (h : kFr m1 m2) : kFrB b m1 m2 := ⟨fun a q1 q2 q3 q4 q5 q6 => h.1 a q1 q3 q4 q5 q6, h.2, fun k _ => by rw [h.1 70 (by decide) (by decide) (by decide) (by decide) (by decide)]⟩
theorem kFrB.up {b w v : Int} {mi : mm_M} (hb : 0 ≤ b) (hw : 0 ≤ w ∧ w < 798) : kFrB b mi (mm_up mi 70 (b + w).toNat v) := ⟨fun a _ q _ _ _ _ => mm_up_ne q, fun k _ _ => by rw [mm_up_ne (by decide)], fun k q => mm_up_at2 (by omega)⟩
theorem kFrB.other {b b2 : Int} {m1 m2 : mm_M} (h : kFrB b m1 m2) (hb2 : 0 ≤ b2) (hd : b2 + 798 ≤ b ∨ b + 798 ≤ b2) : mB m2 b2 = mB m1 b2 := mB_off (fun k h1 h2 => h.2.2 k (by omega)) hb2
section KCH
variable {X : Nat × (Nat → Int)} {mi : mm_M} {h : mm_H} {Q : Option mm_V → mm_S → Prop} {b : Int}
end KCH
