-- THE REFERENCE: deletes, inserts, updates, on one block
section CO
theorem fnx_co {p q : Nat → Bool} {n : Nat} (hp : ∀ e, e < n → p e = q e) : fnx p n 0 = fnx q n 0 := by
  have key : ∀ d e, e + d = n → fnx p n e = fnx q n e := by
    intro d
    induction d with
    | zero => intro e he; rw [fnx_end (by omega), fnx_end (by omega)]
    | succ d ih =>
      intro e he
      cases hc : p e with
      | true => rw [fnx_self (by omega) hc, fnx_self (by omega) (by rw [← hp e (by omega)]; exact hc)]
      | false => rw [fnx_next (p := p) (by omega) hc, ih (e + 1) (by omega), fnx_next (p := q) (e := e) (by omega) (by rw [← hp e (by omega)]; exact hc)]
  exact key n 0 (by omega)
theorem cnt_co {p q : Nat → Bool} {n : Nat} (hp : ∀ e, e < n → p e = q e) : cnt n p = cnt n q := by
  have key : ∀ m, m ≤ n → cnt m p = cnt m q := by
    intro m
    induction m with
    | zero => intro _; rfl
    | succ m ih => intro hm; rw [cnt_succ, cnt_succ, ih (by omega), hp m (by omega)]
  exact key n (Nat.le_refl _)
def mkEq (mk mk2 : Int → Int) : Prop := ∀ x, 0 ≤ x → x < 600 → mk2 x = mk x
variable {B mk mk2 : Int → Int}
theorem gHit_co (hW : kWr B) (hm : mkEq mk mk2) {e : Nat} (he : e < gR B) : gHit B mk2 e = gHit B mk e := by
  obtain ⟨hch, hr, hk, hc, hne, hv, t1, t2⟩ := g_at hW he
  apply propext
  constructor
  · rintro ⟨k1, k2, k3⟩
    have := (hv k1).2 k2
    exact ⟨k1, k2, by rw [← hm _ this.1 this.2]; exact k3⟩
  · rintro ⟨k1, k2, k3⟩
    have := (hv k1).2 k2
    exact ⟨k1, k2, by rw [hm _ this.1 this.2]; exact k3⟩
theorem gWhy_co (hW : kWr B) (hm : mkEq mk mk2) {e : Nat} (he : e < gR B) : gWhy B mk2 e = gWhy B mk e := by
  obtain ⟨hch, hr, hk, hc, hne, hv, t1, t2⟩ := g_at hW he
  have w0 := hW.1
  unfold gWhy kWhy
  rw [hm _ hch.1 hch.2]
  by_cases q : kOf B ((e / 100 : Nat) : Int) 5 = -1
  · rw [if_pos (Or.inr q), if_pos (Or.inr q)]
  · rw [hm (100 * kOf B ((e / 100 : Nat) : Int) 1 + kOf B ((e / 100 : Nat) : Int) 5) (by have := hk.2.1; have := hk.2.2.2.2.2; omega) (by have := hk.2.1; have := hk.2.2.2.2.2; omega)]
theorem gBad_co (hW : kWr B) (hm : mkEq mk mk2) {e : Nat} (he : e < gR B) : gBad B mk2 e = gBad B mk e := by
  have h1 := gHit_co hW hm he
  have h2 := gWhy_co hW hm he
  unfold gBad
  apply Bool.eq_iff_iff.mpr
  rw [decide_eq_true_eq, decide_eq_true_eq, h1, h2]
theorem gHitU_co (hW : kWr B) (hm : mkEq mk mk2) {e : Nat} (he : e < gR B) : gHitU B mk2 e = gHitU B mk e := by
  show (gHit B mk2 e ∧ mk2 (gCh B e) = 0) = (gHit B mk e ∧ mk (gCh B e) = 0)
  have hch := gCh_in hW he
  rw [gHit_co hW hm he, hm _ hch.1 hch.2]
theorem kChg_co (hW : kWr B) (hm : mkEq mk mk2) : ∀ n, n ≤ gR B → kChg B mk2 n = kChg B mk n ∧ kChgN B mk2 n = kChgN B mk n := by
  intro n
  induction n with
  | zero => exact fun _ => ⟨rfl, rfl⟩
  | succ n ih =>
    intro hn
    obtain ⟨i1, i2⟩ := ih (by omega)
    obtain ⟨w1, w2⟩ := kChg_wr (mk := mk) hW n (by omega)
    have hh := gHitU_co w1 hm (e := n) (by rw [w2.R]; omega)
    constructor
    · rw [kChg_succ, kChg_succ, i1]
      by_cases q : gHitU (kChg B mk n) mk n
      · rw [kChg1_yes q, kChg1_yes (by rw [hh]; exact q)]
      · rw [kChg1_no q, kChg1_no (by rw [hh]; exact q)]
    · rw [kChgN_succ, kChgN_succ, i1, i2]
      by_cases q : gHitU (kChg B mk n) mk n
      · rw [if_pos q, if_pos (by rw [hh]; exact q)]
      · rw [if_neg q, if_neg (by rw [hh]; exact q)]
end CO
/-- the marks and the list of a deletion -/
def gMk (B : Int → Int) (x : Int) : Int → Int := fun z => if (gRes B x).2.1 z = true then 1 else 0
def kOut (B : Int → Int) (x : Int) : List Int := (gRes B x).2.2
def kWhich (B : Int → Int) (x : Int) : Option Nat := fnx (gBad B (gMk B x)) (gR B) 0
def gAt (l : List Int) (n : Nat) : Int := l.getD n 0
def kDelC (B : Int → Int) (x : Int) : Int → Int := bUp (bUp (bUp (kChg B (gMk B x) (gR B)) 4 (mm_w (B 4 + kChgN B (gMk B x) (gR B)))) 3 (mm_w (B 3 + (kOut B x).length))) 5 (kOut B x).length
def kDelN (B : Int → Int) (l : List Int) : Nat → Int → Int
  | 0 => B
  | n + 1 => bUp (bUp (kDelN B l n) (78 + n) (gAt l n)) (198 + gAt l n) (-1)
def kDel (B : Int → Int) (x : Int) : Int → Int := kDelN (kDelC B x) (kOut B x) (kOut B x).length
noncomputable def kDele (B : Int → Int) (t k : Int) : Int × (Int → Int) :=
  @ite _ (kIsRow B t k) (Classical.propDecidable _) (match kWhich B (100 * t + k) with
    | none => ((kOut B (100 * t + k)).length, kDel B (100 * t + k))
    | some _ => (-8, B)) (-2, B)
theorem gRes_inv {B : Int → Int} (hW : kWr B) {x : Int} (hx : 0 ≤ x ∧ x < 600) (hc : 0 ≤ kCe B x) : gInv B (gRes B x) := gInv_it hW _ _ (gIni_inv hx hc)
theorem kOut_in {B : Int → Int} (hW : kWr B) (hE : (gEx B).length ≤ 120) {x : Int} (hx : 0 ≤ x ∧ x < 600) (hc : 0 ≤ kCe B x) : (kOut B x).length ≤ 120 ∧ ∀ y ∈ kOut B x, (0 ≤ y ∧ y < 600) ∧ 0 ≤ kCe B y := by
  have hi := gRes_inv hW hx hc
  refine ⟨?_, fun y hy => hi.1 y (List.mem_append_right _ hy)⟩
  have := gAll_len hi hE
  unfold kOut
  omega
theorem gAt_mem {l : List Int} {n : Nat} (h : n < l.length) : gAt l n ∈ l ∧ l[n]? = some (gAt l n) := by
  unfold gAt
  rw [List.getD_eq_getElem?_getD, List.getElem?_eq_getElem h]
  exact ⟨List.getElem_mem h, rfl⟩
theorem kRel.mk {mi : mm_M} {B : Int → Int} {x : Int} (h : kRel mi (gRes B x)) : mkEq (gMk B x) (mA mi 72) := fun z h1 h2 => h.2.1 z h1 h2
section KO
variable {X : Nat × (Nat → Int)} {mi : mm_M} {h : mm_H} {Q : Option mm_V → mm_S → Prop} {b : Int}
theorem mB_eq {mi mi2 : mm_M} (h : mi2 70 = mi 70) (b : Int) : mB mi2 b = mB mi b := by unfold mB; rw [h]
theorem kFrB.up2 {m0 mi : mm_M} {w v : Int} (hF : kFrB b m0 mi) (hb : 0 ≤ b) (hw : 0 ≤ w ∧ w < 798) : kFrB b m0 (mm_up mi 70 (b + w).toNat v) := hF.tr (kFrB.up hb hw)
theorem sp109 (hb : kb b) (hW : kWr (mB mi b)) (hE : (gEx (mB mi b)).length ≤ 120) {t k : Int} (hq : ∀ a mi2, kDele (mB mi b) t k = (a, mB mi2 b) → kFrB b mi mi2 → Q (some (.inl a)) (mm_ms0 mi2 h)) : mcl X 109 [.inr (some 69), .inl b, .inl t, .inl k] (mm_ms0 mi h) Q := by
  have hb' := hb
  unfold kb at hb
  have w0 := hW.1
  rw [c109, b109_0, sp94' hb' hW, mm_psh_i, b109_7, mm_ite0]
  by_cases q1 : kIsRow (mB mi b) t k
  · have hx : 0 ≤ 100 * t + k ∧ 100 * t + k < 600 := by omega
    have hc : 0 ≤ kCe (mB mi b) (100 * t + k) := q1.2.2
    obtain ⟨ho1, ho2⟩ := kOut_in hW hE hx hc
    rw [if_pos q1, b109_13, mm_wi (z := 100 * t) (by omega) (by omega), mm_wi (z := 100 * t + k) (by omega) (by omega)]
    refine sp104 hb' hW hE hx hc ?_
    intro mi1 hF1 hR1
    have hB1 := hF1.B b
    have hmk := hR1.mk
    have hW1 : kWr (mB mi1 b) := by rw [hB1]; exact hW
    rw [mm_psh_n, b109_24]
    refine sp107 hb' hW1 ?_ ?_
    · intro hn
      rw [hB1, fnx_co (fun e he => gBad_co hW hmk he)] at hn
      rw [mm_psh_i, b109_29, if_neg (by omega), b109_35, mm_wi (z := b + 4) (by omega) (by omega)]
      refine ⟨by omega, ?_⟩
      rw [b109_44]
      refine sp108 hb' hW1 (Or.inr rfl) (fun z => by omega) ?_
      intro _ mi2 hF2 e69 e75 e72 hB2
      obtain ⟨co1, co2⟩ := kChg_co hW hmk (gR (mB mi b)) (Nat.le_refl _)
      rw [hB1, co1] at hB2
      rw [hB1, co2]
      have hS := (kChg_wr (mk := gMk (mB mi b) (100 * t + k)) hW _ (Nat.le_refl _)).2
      have hm : mi2 69 16 = (kOut (mB mi b) (100 * t + k)).length := by rw [e69]; exact hR1.2.2.1
      have hl : ∀ i, i < (kOut (mB mi b) (100 * t + k)).length → mi2 75 i = gAt (kOut (mB mi b) (100 * t + k)) i := by
        intro i hi
        rw [e75]
        exact hR1.2.2.2 i hi _ (gAt_mem hi).2
      have hF12 : kFrB b mi mi2 := hF1.toB.tr hF2
      rw [mm_psh_i, b109_50]
      refine ⟨by omega, ?_⟩
      rw [show mi1 70 (b + 4).toNat = mB mi1 b 4 from mB_1 mi1 (by omega), hB1]
      have hF3 := hF12.up2 (w := 4) (v := mm_w (mB mi b 4 + kChgN (mB mi b) (gMk (mB mi b) (100 * t + k)) (gR (mB mi b)))) (by omega) (by omega)
      have hB3 : mB (mm_up mi2 70 (b + 4).toNat (mm_w (mB mi b 4 + kChgN (mB mi b) (gMk (mB mi b) (100 * t + k)) (gR (mB mi b))))) b = _ := mB_up (by omega) (by omega)
      rw [hB2] at hB3
      have hm3 : mm_up mi2 70 (b + 4).toNat (mm_w (mB mi b 4 + kChgN (mB mi b) (gMk (mB mi b) (100 * t + k)) (gR (mB mi b)))) 69 16 = (kOut (mB mi b) (100 * t + k)).length := by rw [mm_up_ne (by decide)]; exact hm
      have hl3 : ∀ i, i < (kOut (mB mi b) (100 * t + k)).length → mm_up mi2 70 (b + 4).toNat (mm_w (mB mi b 4 + kChgN (mB mi b) (gMk (mB mi b) (100 * t + k)) (gR (mB mi b)))) 75 i = gAt (kOut (mB mi b) (100 * t + k)) i := by intro i hi; rw [mm_up_ne (by decide)]; exact hl i hi
      generalize mm_up mi2 70 (b + 4).toNat (mm_w (mB mi b 4 + kChgN (mB mi b) (gMk (mB mi b) (100 * t + k)) (gR (mB mi b)))) = mi3 at hF3 hB3 hm3 hl3 ⊢
      rw [b109_52, mm_wi (z := b + 3) (by omega) (by omega)]
      refine ⟨by omega, ?_⟩
      rw [b109_61]
      refine ⟨by omega, ?_⟩
      rw [hm3, mB_1 mi3 (by omega), hB3, bUp_ne (by omega), hS 3 (by omega)]
      have hF4 := hF3.up2 (w := 3) (v := mm_w (mB mi b 3 + (kOut (mB mi b) (100 * t + k)).length)) (by omega) (by omega)
      have hB4 : mB (mm_up mi3 70 (b + 3).toNat (mm_w (mB mi b 3 + (kOut (mB mi b) (100 * t + k)).length))) b = _ := mB_up (by omega) (by omega)
      rw [hB3] at hB4
      have hm4 : mm_up mi3 70 (b + 3).toNat (mm_w (mB mi b 3 + (kOut (mB mi b) (100 * t + k)).length)) 69 16 = (kOut (mB mi b) (100 * t + k)).length := by rw [mm_up_ne (by decide)]; exact hm3
      have hl4 : ∀ i, i < (kOut (mB mi b) (100 * t + k)).length → mm_up mi3 70 (b + 3).toNat (mm_w (mB mi b 3 + (kOut (mB mi b) (100 * t + k)).length)) 75 i = gAt (kOut (mB mi b) (100 * t + k)) i := by intro i hi; rw [mm_up_ne (by decide)]; exact hl3 i hi
      generalize mm_up mi3 70 (b + 3).toNat (mm_w (mB mi b 3 + (kOut (mB mi b) (100 * t + k)).length)) = mi4 at hF4 hB4 hm4 hl4 ⊢
      rw [b109_67, mm_wi (z := b + 5) (by omega) (by omega), hm4]
      refine ⟨by omega, ?_⟩
      have hF5 := hF4.up2 (w := 5) (v := (kOut (mB mi b) (100 * t + k)).length) (by omega) (by omega)
      have hB5 : mB (mm_up mi4 70 (b + 5).toNat (kOut (mB mi b) (100 * t + k)).length) b = kDelC (mB mi b) (100 * t + k) := by rw [mB_up (by omega) (by omega), hB4]; rfl
      have hm5 : mm_up mi4 70 (b + 5).toNat (kOut (mB mi b) (100 * t + k)).length 69 16 = (kOut (mB mi b) (100 * t + k)).length := by rw [mm_up_ne (by decide)]; exact hm4
      have hl5 : ∀ i, i < (kOut (mB mi b) (100 * t + k)).length → mm_up mi4 70 (b + 5).toNat (kOut (mB mi b) (100 * t + k)).length 75 i = gAt (kOut (mB mi b) (100 * t + k)) i := by intro i hi; rw [mm_up_ne (by decide)]; exact hl4 i hi
      generalize mm_up mi4 70 (b + 5).toNat (kOut (mB mi b) (100 * t + k)).length = mi5 at hF5 hB5 hm5 hl5 ⊢
      rw [b109_79]
      refine mm_for (fun n => ∀ mi6, kFrB b mi mi6 → mB mi6 b = kDelN (kDelC (mB mi b) (100 * t + k)) (kOut (mB mi b) (100 * t + k)) n → mi6 69 16 = (kOut (mB mi b) (100 * t + k)).length → (∀ i, i < (kOut (mB mi b) (100 * t + k)).length → mi6 75 i = gAt (kOut (mB mi b) (100 * t + k)) i) → mwp X 109 82 [some (.inr (some 69)), some (.inl b), some (.inl t), some (.inl k), some (.inl (n : Int))] [] (mm_ms0 mi6 h) Q) (kOut (mB mi b) (100 * t + k)).length ?_ ?_ 0 (Nat.zero_le _) mi5 hF5 hB5 hm5 hl5
      · intro mi6 hF6 hB6 hm6 hl6
        rw [b109_82, hm6, if_neg (by omega), b109_135, hm6]
        refine hq _ mi6 ?_ hF6
        unfold kDele
        rw [if_pos q1, show kWhich (mB mi b) (100 * t + k) = none from hn, hB6]
        rfl
      · intro n hn2 ih mi6 hF6 hB6 hm6 hl6
        obtain ⟨hy1, hy2⟩ := gAt_mem hn2
        have hy := (ho2 _ hy1).1
        have e75n : mi6 75 (n : Int).toNat = gAt (kOut (mB mi b) (100 * t + k)) n := by rw [Int.toNat_natCast]; exact hl6 n hn2
        rw [b109_82, hm6, if_pos (by omega), b109_91, mm_wi (z := b + 78) (by omega) (by omega), mm_wi (z := b + 78 + n) (by omega) (by omega), e75n]
        refine ⟨by omega, ?_⟩
        rw [b109_109]
        refine ⟨by omega, ?_⟩
        rw [b109_110, mm_wi (z := b + 198) (by omega) (by omega), mm_up_ne (by decide), e75n]
        refine ⟨by omega, ?_⟩
        rw [b109_126, mm_wi (z := b + 198 + gAt (kOut (mB mi b) (100 * t + k)) n) (by omega) (by omega)]
        refine ⟨by omega, ?_⟩
        rw [b109_129, mm_wi (z := (n : Int) + 1) (by omega) (by omega), Int.add_assoc, Int.add_assoc]
        refine ih _ ((hF6.up2 (by omega) (by omega)).up2 (by omega) (by omega)) ?_ ?_ ?_
        · rw [mB_up (by omega) (by omega), mB_up (by omega) (by omega), hB6]
          rfl
        · rw [mm_up_ne (by decide), mm_up_ne (by decide)]; exact hm6
        · intro i hi
          rw [mm_up_ne (by decide), mm_up_ne (by decide)]; exact hl6 i hi
    · intro e he hbad hn
      have hpos : 0 < gWhy (mB mi1 b) (mA mi1 72) e := (of_decide_eq_true hbad).2
      rw [hB1, fnx_co (fun e he => gBad_co hW hmk he)] at hn
      rw [mm_psh_i, b109_29, if_pos hpos, b109_32]
      refine hq _ _ ?_ (hF1.up (Or.inr (Or.inr (Or.inr (Or.inr ⟨rfl, Or.inr rfl⟩))))).toB
      unfold kDele
      rw [if_pos q1, show kWhich (mB mi b) (100 * t + k) = some e from hn, mB_eq (mm_up_ne (by decide)), hB1]
  · rw [if_neg q1, b109_10]
    refine hq _ mi ?_ kFrB.rf
    unfold kDele
    rw [if_neg q1]
end KO
