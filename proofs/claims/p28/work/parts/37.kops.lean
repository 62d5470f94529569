-- THE REFERENCE: deletes, inserts, updates, on one block
section CO
theorem fnx_co {p q : Nat → Bool} {n : Nat} (hp : ∀ e, e < n → p e = q e) : fnx p n 0 = fnx q n 0 := by
  have key : ∀ d e, e + d = n → fnx p n e = fnx q n e := by
    intro d
    induction d with
    | zero => intro e he; rw [fnx_end (by omega), fnx_end (by omega)]
    | succ d ih =>
      intro e he
      cases hc : p e with
      | true => rw [fnx_self (by omega) hc, fnx_self (by omega) (by rw [← hp e (by omega)]; exact hc)]
      | false => rw [fnx_next (p := p) (by omega) hc, ih (e + 1) (by omega), fnx_next (p := q) (e := e) (by omega) (by rw [← hp e (by omega)]; exact hc)]
  exact key n 0 (by omega)
theorem cnt_co {p q : Nat → Bool} {n : Nat} (hp : ∀ e, e < n → p e = q e) : cnt n p = cnt n q := by
  have key : ∀ m, m ≤ n → cnt m p = cnt m q := by
    intro m
    induction m with
    | zero => intro _; rfl
    | succ m ih => intro hm; rw [cnt_succ, cnt_succ, ih (by omega), hp m (by omega)]
  exact key n (Nat.le_refl _)
def mkEq (mk mk2 : Int → Int) : Prop := ∀ x, 0 ≤ x → x < 600 → mk2 x = mk x
variable {B mk mk2 : Int → Int}
theorem gHit_co (hW : kWr B) (hm : mkEq mk mk2) {e : Nat} (he : e < gR B) : gHit B mk2 e = gHit B mk e := by
  obtain ⟨hch, hr, hk, hc, hne, hv, t1, t2⟩ := g_at hW he
  apply propext
  constructor
  · rintro ⟨k1, k2, k3⟩
    have := (hv k1).2 k2
    exact ⟨k1, k2, by rw [← hm _ this.1 this.2]; exact k3⟩
  · rintro ⟨k1, k2, k3⟩
    have := (hv k1).2 k2
    exact ⟨k1, k2, by rw [hm _ this.1 this.2]; exact k3⟩
theorem gWhy_co (hW : kWr B) (hm : mkEq mk mk2) {e : Nat} (he : e < gR B) : gWhy B mk2 e = gWhy B mk e := by
  obtain ⟨hch, hr, hk, hc, hne, hv, t1, t2⟩ := g_at hW he
  have w0 := hW.1
  unfold gWhy kWhy
  rw [hm _ hch.1 hch.2]
  by_cases q : kOf B ((e / 100 : Nat) : Int) 5 = -1
  · rw [if_pos (Or.inr q), if_pos (Or.inr q)]
  · rw [hm (100 * kOf B ((e / 100 : Nat) : Int) 1 + kOf B ((e / 100 : Nat) : Int) 5) (by have := hk.2.1; have := hk.2.2.2.2.2; omega) (by have := hk.2.1; have := hk.2.2.2.2.2; omega)]
theorem gBad_co (hW : kWr B) (hm : mkEq mk mk2) {e : Nat} (he : e < gR B) : gBad B mk2 e = gBad B mk e := by
  have h1 := gHit_co hW hm he
  have h2 := gWhy_co hW hm he
  unfold gBad
  apply Bool.eq_iff_iff.mpr
  rw [decide_eq_true_eq, decide_eq_true_eq, h1, h2]
theorem gHitU_co (hW : kWr B) (hm : mkEq mk mk2) {e : Nat} (he : e < gR B) : gHitU B mk2 e = gHitU B mk e := by
  show (gHit B mk2 e ∧ mk2 (gCh B e) = 0) = (gHit B mk e ∧ mk (gCh B e) = 0)
  have hch := gCh_in hW he
  rw [gHit_co hW hm he, hm _ hch.1 hch.2]
theorem kChg_co (hW : kWr B) (hm : mkEq mk mk2) : ∀ n, n ≤ gR B → kChg B mk2 n = kChg B mk n ∧ kChgN B mk2 n = kChgN B mk n := by
  intro n
  induction n with
  | zero => exact fun _ => ⟨rfl, rfl⟩
  | succ n ih =>
    intro hn
    obtain ⟨i1, i2⟩ := ih (by omega)
    obtain ⟨w1, w2⟩ := kChg_wr (mk := mk) hW n (by omega)
    have hh := gHitU_co w1 hm (e := n) (by rw [w2.R]; omega)
    constructor
    · rw [kChg_succ, kChg_succ, i1]
      by_cases q : gHitU (kChg B mk n) mk n
      · rw [kChg1_yes q, kChg1_yes (by rw [hh]; exact q)]
      · rw [kChg1_no q, kChg1_no (by rw [hh]; exact q)]
    · rw [kChgN_succ, kChgN_succ, i1, i2]
      by_cases q : gHitU (kChg B mk n) mk n
      · rw [if_pos q, if_pos (by rw [hh]; exact q)]
      · rw [if_neg q, if_neg (by rw [hh]; exact q)]
end CO
/-- the marks and the list of a deletion -/
def gMk (B : Int → Int) (x : Int) : Int → Int := fun z => if (gRes B x).2.1 z = true then 1 else 0
def kOut (B : Int → Int) (x : Int) : List Int := (gRes B x).2.2
def kWhich (B : Int → Int) (x : Int) : Option Nat := fnx (gBad B (gMk B x)) (gR B) 0
def gAt (l : List Int) (n : Nat) : Int := l.getD n 0
def kDelC (B : Int → Int) (x : Int) : Int → Int := bUp (bUp (bUp (kChg B (gMk B x) (gR B)) 4 (mm_w (B 4 + kChgN B (gMk B x) (gR B)))) 3 (mm_w (B 3 + (kOut B x).length))) 5 (kOut B x).length
def kDelN (B : Int → Int) (l : List Int) : Nat → Int → Int
  | 0 => B
  | n + 1 => bUp (bUp (kDelN B l n) (78 + n) (gAt l n)) (198 + gAt l n) (-1)
def kDel (B : Int → Int) (x : Int) : Int → Int := kDelN (kDelC B x) (kOut B x) (kOut B x).length
noncomputable def kDele (B : Int → Int) (t k : Int) : Int × (Int → Int) :=
  @ite _ (kIsRow B t k) (Classical.propDecidable _) (match kWhich B (100 * t + k) with
    | none => ((kOut B (100 * t + k)).length, kDel B (100 * t + k))
    | some _ => (-8, B)) (-2, B)
theorem gRes_inv {B : Int → Int} (hW : kWr B) {x : Int} (hx : 0 ≤ x ∧ x < 600) (hc : 0 ≤ kCe B x) : gInv B (gRes B x) := gInv_it hW _ _ (gIni_inv hx hc)
theorem kOut_in {B : Int → Int} (hW : kWr B) (hE : (gEx B).length ≤ 120) {x : Int} (hx : 0 ≤ x ∧ x < 600) (hc : 0 ≤ kCe B x) : (kOut B x).length ≤ 120 ∧ ∀ y ∈ kOut B x, (0 ≤ y ∧ y < 600) ∧ 0 ≤ kCe B y := by
  have hi := gRes_inv hW hx hc
  refine ⟨?_, fun y hy => hi.1 y (List.mem_append_right _ hy)⟩
  have := gAll_len hi hE
  unfold kOut
  omega
theorem gAt_mem {l : List Int} {n : Nat} (h : n < l.length) : gAt l n ∈ l ∧ l[n]? = some (gAt l n) := by
  unfold gAt
  rw [List.getD_eq_getElem?_getD, List.getElem?_eq_getElem h]
  exact ⟨List.getElem_mem h, rfl⟩
theorem kRel.mk {mi : mm_M} {B : Int → Int} {x : Int} (h : kRel mi (gRes B x)) : mkEq (gMk B x) (mA mi 72) := fun z h1 h2 => h.2.1 z h1 h2
section KO
variable {X : Nat × (Nat → Int)} {mi : mm_M} {h : mm_H} {Q : Option mm_V → mm_S → Prop} {b : Int}
theorem mB_eq {mi mi2 : mm_M} (h : mi2 70 = mi 70) (b : Int) : mB mi2 b = mB mi b := by unfold mB; rw [h]
theorem kFrB.up2 {m0 mi : mm_M} {w v : Int} (hF : kFrB b m0 mi) (hb : 0 ≤ b) (hw : 0 ≤ w ∧ w < 798) : kFrB b m0 (mm_up mi 70 (b + w).toNat v) := hF.tr (kFrB.up hb hw)
end KO
