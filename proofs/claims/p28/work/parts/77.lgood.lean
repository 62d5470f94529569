-- WHAT ALWAYS HOLDS, pure: no null where one must not be, counters and rows hang together, two tables at the least
theorem mm_w_eq (z : Int) : mm_w z = (z + 2147483648) % 4294967296 - 2147483648 := by
  have h : mm_w z = z.bmod 4294967296 := Int32.toInt_ofInt
  rw [h, Int.bmod_def]
  split <;> omega
def lReq (B : Int → Int) : Prop := ∀ e, e < gR B → gRow B e → kOf B ((e / 100 : Nat) : Int) 4 = 1 → gVal B e ≠ -1
def lCnt (B : Int → Int) : Prop := kAll B = mm_w (B 2 - B 3)
def lG (B : Int → Int) : Prop := lReq B ∧ lCnt B ∧ 2 ≤ B 0
section LG
variable {B B2 : Int → Int}
theorem kAllN_cnt (n : Nat) : kAllN B n = cnt (100 * n) (fun x => decide (0 ≤ kCe B x)) := by
  induction n with
  | zero => rfl
  | succ n ih =>
    rw [show 100 * (n + 1) = 100 * n + 100 by omega, cnt_add, ← ih]
    show kAllN B n + kRows B n = _
    have e : kRows B n = cnt 100 (fun k => decide (0 ≤ kCe B ((100 * n + k : Nat) : Int))) := by
      unfold kRows
      exact cnt_co fun k hk => by rw [show ((100 * n + k : Nat) : Int) = 100 * (n : Int) + k by omega]
    rw [e]
/-- all rows, counted over all places -/
theorem kAll_cnt (hI : bInv B) : kAll B = cnt 600 (fun x => decide (0 ≤ kCe B x)) := by
  have h0 := hI.1.1
  have h1 := hI.2.2.2.2.1.2
  unfold kAll
  rw [kAllN_cnt]
  refine (cnt_steady (by omega) (fun k h2 h3 => decide_eq_false ?_)).symm
  have := h1 k (by omega) (by omega)
  omega
theorem kAll_co (hI : bInv B) (hI2 : bInv B2) (hc : ∀ x, 0 ≤ x → x < 600 → (0 ≤ kCe B2 x ↔ 0 ≤ kCe B x)) : kAll B2 = kAll B := by
  rw [kAll_cnt hI, kAll_cnt hI2]
  refine cnt_co fun k hk => ?_
  by_cases q : 0 ≤ kCe B k
  · rw [decide_eq_true q, decide_eq_true ((hc k (by omega) (by omega)).mpr q)]
  · rw [decide_eq_false q, decide_eq_false (fun z => q ((hc k (by omega) (by omega)).mp z))]
theorem lReq.co (hW : kWr B) (hq : lReq B) (h1 : B2 1 = B 1) (hf : ∀ (r w : Int), 0 ≤ r → r < B 1 → (w = 0 ∨ w = 2 ∨ w = 4) → kOf B2 r w = kOf B r w) (hc : ∀ x, 0 ≤ x → x < 600 → kCe B2 x = kCe B x) : lReq B2 := by
  intro e he hrow hneed
  have hg : gR B2 = gR B := by unfold gR; rw [h1]
  rw [hg] at he
  obtain ⟨g1, g2, g3, g4, g5, g6, g7, g8⟩ := g_at hW he
  have ech : gCh B2 e = gCh B e := by unfold gCh; rw [hf _ 0 (by omega) g2 (Or.inl rfl)]
  have ev : gVal B2 e = gVal B e := by
    show kV B2 (gCh B2 e) (kOf B2 _ 2) = kV B (gCh B e) (kOf B _ 2)
    rw [ech, hf _ 2 (by omega) g2 (Or.inr (Or.inl rfl))]
    unfold kV
    rw [hc _ g1.1 g1.2]
  have row : gRow B e := by
    have : 0 ≤ kCe B2 (gCh B2 e) := hrow
    rw [ech, hc _ g1.1 g1.2] at this
    exact this
  rw [hf _ 4 (by omega) g2 (Or.inr (Or.inr rfl))] at hneed
  rw [ev]
  exact hq e he row hneed
theorem lG_tab (hI : bInv B) (h : lG B) (h6 : B 0 < 6) : lG (bUp B 0 (B 0 + 1)) := by
  have hI2 := hI.tab h6
  have w1 := hI.1.2.1
  refine ⟨h.1.co hI.1 (bUp_ne (by decide)) (fun r w a b c => bUp_ne (by omega)) (fun x a b => bUp_ne (by omega)), ?_, by rw [bUp_at]; have := h.2.2; omega⟩
  unfold lCnt
  rw [kAll_co hI hI2 (fun x a b => by rw [show kCe (bUp B 0 (B 0 + 1)) x = kCe B x from bUp_ne (by omega)]), bUp_ne (by decide), bUp_ne (by decide)]
  exact h.2.1
theorem lG_rule (hI : bInv B) (h : lG B) {r v : Int} (hr : 0 ≤ r ∧ r < B 1) (hv : 0 ≤ v ∧ v ≤ 4) : lG (bUp B (6 + 6 * r + 3) v) := by
  have hI2 := hI.rule hr hv
  have w1 := hI.1.2.1
  refine ⟨h.1.co hI.1 (bUp_ne (by omega)) (fun s w a b c => bUp_ne (by omega)) (fun x a b => bUp_ne (by omega)), ?_, by rw [bUp_ne (by omega)]; exact h.2.2⟩
  unfold lCnt
  rw [kAll_co hI hI2 (fun x a b => by rw [show kCe (bUp B (6 + 6 * r + 3) v) x = kCe B x from bUp_ne (by omega)]), bUp_ne (by omega), bUp_ne (by omega)]
  exact h.2.1
theorem lG_ref (hI : bInv B) (h : lG B) {c p rule q d : Int} (hc : 0 ≤ c ∧ c < B 0) (hp : 0 ≤ p ∧ p < B 0) (hru : 0 ≤ rule ∧ rule ≤ 4) (hd : -1 ≤ d ∧ d ≤ 99) (hm : B 1 < 12) (hcm : kCols B c < 2) (hno : ¬ 0 < kRows B c) : lG (kAddRB B c p rule q d) := by
  have hI2 := hI.ref (q := q) hc hp hru hd hm hcm
  have w1 := hI.1.2.1
  obtain ⟨a1, a2, a3, a4, a5, a6, a7⟩ := kAddRB_at (B := B) (c := c) (p := p) (rule := rule) (q := q) (d := d) w1.1
  have ce : ∀ x, 0 ≤ x → kCe (kAddRB B c p rule q d) x = kCe B x := fun x hx => kAddRB_ne (by omega) (by omega)
  refine ⟨fun e he hrow hneed => ?_, ?_, by rw [kAddRB_ne (by decide) (by omega)]; exact h.2.2⟩
  · have hg : gR (kAddRB B c p rule q d) = gR B + 100 := by unfold gR; rw [a1]; omega
    rw [hg] at he
    have hg0 : (gR B : Int) = 100 * B 1 := by unfold gR; omega
    by_cases el : e < gR B
    · obtain ⟨g1, g2, g3, g4, g5, g6, g7, g8⟩ := g_at hI.1 el
      have of : ∀ w : Int, 0 ≤ w → w < 6 → kOf (kAddRB B c p rule q d) ((e / 100 : Nat) : Int) w = kOf B ((e / 100 : Nat) : Int) w := fun w z1 z2 => kAddRB_ne (by omega) (by omega)
      have ech : gCh (kAddRB B c p rule q d) e = gCh B e := by unfold gCh; rw [of 0 (by decide) (by decide)]
      have evv : gVal (kAddRB B c p rule q d) e = gVal B e := by
        show kV _ (gCh _ e) (kOf _ _ 2) = kV _ (gCh _ e) (kOf _ _ 2)
        rw [ech, of 2 (by decide) (by decide)]
        unfold kV
        rw [ce _ g1.1]
      have row : gRow B e := by
        have : 0 ≤ kCe (kAddRB B c p rule q d) (gCh (kAddRB B c p rule q d) e) := hrow
        rw [ech, ce _ g1.1] at this
        exact this
      rw [of 4 (by decide) (by decide)] at hneed
      rw [evv]
      exact h.1 e el row hneed
    · exfalso
      have er : ((e / 100 : Nat) : Int) = B 1 := by omega
      have : 0 ≤ kCe (kAddRB B c p rule q d) (gCh (kAddRB B c p rule q d) e) := hrow
      have ech : gCh (kAddRB B c p rule q d) e = 100 * c + ((e % 100 : Nat) : Int) := by unfold gCh; rw [er, a2]
      rw [ech, ce _ (by omega)] at this
      have hz : cnt (e % 100 + 1) (fun k => decide (0 ≤ kCe B (100 * c + k))) ≤ kRows B c := cnt_mono _ (by omega)
      rw [cnt_succ, if_pos (decide_eq_true this)] at hz
      have := cnt_nn (e % 100) (fun k => decide (0 ≤ kCe B (100 * c + k)))
      omega
  · unfold lCnt
    rw [kAll_co hI hI2 (fun x a b => by rw [ce x a]), kAddRB_ne (by decide) (by omega), kAddRB_ne (by decide) (by omega)]
    exact h.2.1
theorem lG_ins (hI : bInv B) (hF : bFk B) (h : lG B) {t k v0 v1 : Int} (hk : cInsOk B t k v0 v1) : lG (kIns B t k v0 v1).2 := by
  have hI2 := (kIns_keep hI hF hk).1
  rw [kIns_ok hk] at hI2 ⊢
  dsimp only at hI2 ⊢
  obtain ⟨q1, q2, q3, q4, q5, q6⟩ := hk
  have q2' : (0 ≤ k ∧ k ≤ 99) ∧ (-1 ≤ v0 ∧ v0 ≤ if 0 < kCols B t then 99 else -1) ∧ (-1 ≤ v1 ∧ v1 ≤ if 1 < kCols B t then 99 else -1) := Classical.byContradiction (fun z => q2 z)
  have hk := q2'.1
  have hv0 : -1 ≤ v0 ∧ v0 ≤ 99 := ⟨q2'.2.1.1, le_99 q2'.2.1.2⟩
  have hv1 : -1 ≤ v1 ∧ v1 ≤ 99 := ⟨q2'.2.2.1, le_99 q2'.2.2.2⟩
  have hno : kCe B (100 * t + k) < 0 := by
    by_cases z : 0 ≤ kCe B (100 * t + k)
    · exact absurd ⟨q1, by omega, z⟩ q3
    · omega
  have w0 := hI.1.1
  have w1 := hI.1.2.1
  have hx : 0 ≤ 100 * t + k ∧ 100 * t + k < 600 := by omega
  have ce1 : ∀ y, kCe (kInsB B (100 * t + k) v0 v1) y = if y = 100 * t + k then 101 * (v0 + 1) + v1 + 1 else kCe B y := fun y => kCe_up
  have lo : ∀ z, z ≠ 2 → z < 198 → bUp (kInsB B (100 * t + k) v0 v1) 2 (mm_w (B 2 + 1)) z = B z := fun z h1 h2 => by
    rw [bUp_ne h1]; exact bUp_lo hx.1 h2
  have at2 : bUp (kInsB B (100 * t + k) v0 v1) 2 (mm_w (B 2 + 1)) 2 = mm_w (B 2 + 1) := bUp_at
  have ce : ∀ y, 0 ≤ y → kCe (bUp (kInsB B (100 * t + k) v0 v1) 2 (mm_w (B 2 + 1))) y = if y = 100 * t + k then 101 * (v0 + 1) + v1 + 1 else kCe B y := fun y hy => by
    rw [← ce1]; exact bUp_ne (by omega)
  generalize bUp (kInsB B (100 * t + k) v0 v1) 2 (mm_w (B 2 + 1)) = B2 at hI2 lo ce at2 ⊢
  refine ⟨fun e he hrow hneed => ?_, ?_, by rw [lo 0 (by decide) (by decide)]; exact h.2.2⟩
  · have hg : gR B2 = gR B := by unfold gR; rw [lo 1 (by decide) (by decide)]
    rw [hg] at he
    obtain ⟨g1, g2, g3, g4, g5, g6, g7, g8⟩ := g_at hI.1 he
    have of : ∀ w : Int, 0 ≤ w → w < 6 → kOf B2 ((e / 100 : Nat) : Int) w = kOf B ((e / 100 : Nat) : Int) w := fun w h1 h2 => lo _ (by omega) (by omega)
    have ech : gCh B2 e = gCh B e := by unfold gCh; rw [of 0 (by decide) (by decide)]
    have ev : gVal B2 e = kV B2 (gCh B e) (kOf B ((e / 100 : Nat) : Int) 2) := by
      show kV B2 (gCh B2 e) (kOf B2 _ 2) = _
      rw [ech, of 2 (by decide) (by decide)]
    rw [of 4 (by decide) (by decide)] at hneed
    by_cases q : gCh B e = 100 * t + k
    · have d1 : gCh B e = 100 * kOf B ((e / 100 : Nat) : Int) 0 + ((e % 100 : Nat) : Int) := rfl
      have t1 : kOf B ((e / 100 : Nat) : Int) 0 = t := by omega
      have u := hI.2.2.2.1.2 (e / 100) g2
      have ro := kRo_at hI g2
      rw [t1] at u ro
      have hcol := g3.2.2.1
      have vv : gVal B2 e = (if kOf B ((e / 100 : Nat) : Int) 2 = 0 then v0 else v1) := by
        rw [ev]
        unfold kV
        rw [ce _ g1.1, if_pos q]
        split <;> omega
      have nd : kNeed B t (kOf B ((e / 100 : Nat) : Int) 2) := ⟨u, by rw [ro]; exact hneed⟩
      intro z
      rw [vv] at z
      by_cases c0 : kOf B ((e / 100 : Nat) : Int) 2 = 0
      · rw [if_pos c0] at z
        rw [c0] at nd
        exact q5 (Or.inl ⟨z, nd⟩)
      · rw [if_neg c0] at z
        rw [show kOf B ((e / 100 : Nat) : Int) 2 = 1 by omega] at nd
        exact q5 (Or.inr ⟨z, nd⟩)
    · have row : gRow B e := by
        have : 0 ≤ kCe B2 (gCh B2 e) := hrow
        rw [ech, ce _ g1.1, if_neg q] at this
        exact this
      have vv : gVal B2 e = gVal B e := by
        rw [ev]
        show kV B2 (gCh B e) _ = kV B (gCh B e) _
        unfold kV
        rw [ce _ g1.1, if_neg q]
      rw [vv]
      exact h.1 e he row hneed
  · unfold lCnt
    have hd := cnt_drop (p := fun x : Nat => decide (0 ≤ kCe B2 x)) (q := fun x : Nat => decide (0 ≤ kCe B x)) (k := (100 * t + k).toNat) 600 (by omega) (decide_eq_true (by rw [ce _ (by omega), if_pos (by omega)]; omega)) (decide_eq_false (by rw [show (((100 * t + k).toNat : Nat) : Int) = 100 * t + k by omega]; omega)) (fun j hj => by rw [ce _ (by omega), if_neg (by omega)])
    rw [kAll_cnt hI2, ← hd, ← kAll_cnt hI, lo 3 (by decide) (by decide), at2]
    have := h.2.1
    unfold lCnt at this
    rw [this]
    have hr := cnt_le 600 (fun x : Nat => decide (0 ≤ kCe B x))
    rw [← kAll_cnt hI, this] at hr
    simp only [mm_w_eq] at hr ⊢
    omega
theorem lG_upd (hI : bInv B) (hF : bFk B) (h : lG B) {t k c v : Int} (h1 : kIsRow B t k ∧ 0 ≤ c ∧ c ≤ kCols B t - 1) (h2 : -1 ≤ v ∧ v ≤ 99) (h3 : ¬ (v = -1 ∧ kNeed B t c)) (h4 : ¬ (v ≠ -1 ∧ ¬ kHasP B t c v)) : lG (bUp B (198 + (100 * t + k)) (kLay B (100 * t + k) c v)) := by
  have hI2 := (kUpd_keep hI hF h1 h2 h4).1
  have w0 := hI.1.1
  have w1 := hI.1.2.1
  have hx : 0 ≤ 100 * t + k ∧ 100 * t + k < 600 := by
    have := h1.1.1
    have := h1.1.2.1
    omega
  have hce := h1.1.2.2
  have hrg : 0 ≤ kCe B (100 * t + k) ∧ kCe B (100 * t + k) ≤ 10200 := ⟨hce, (hI.1.2.2.2 _ hx.1 hx.2).2⟩
  have hc2 := hI.2.1 t
  have hc01 : c = 0 ∨ c = 1 := by omega
  have hl := kLay_in (c := c) hrg h2
  have hs : kSame B (bUp B (198 + (100 * t + k)) (kLay B (100 * t + k) c v)) := kSame.up hx.1
  have stay : ∀ y, 0 ≤ kCe (bUp B (198 + (100 * t + k)) (kLay B (100 * t + k) c v)) y ↔ 0 ≤ kCe B y := by
    intro y
    rw [kCe_up]
    split
    · rename_i z
      rw [z]
      exact ⟨fun _ => hce, fun _ => hl.1⟩
    · exact Iff.rfl
  refine ⟨fun e he hrow hneed => ?_, ?_, by rw [hs 0 (by decide)]; exact h.2.2⟩
  · rw [hs.R] at he
    obtain ⟨g1, g2, g3, g4, g5, g6, g7, g8⟩ := g_at hI.1 he
    have ech := hs.ch hI.1 he
    have row : gRow B e := by
      have : 0 ≤ kCe (bUp B (198 + (100 * t + k)) (kLay B (100 * t + k) c v)) (gCh (bUp B (198 + (100 * t + k)) (kLay B (100 * t + k) c v)) e) := hrow
      rw [ech] at this
      exact (stay _).mp this
    have hcol := g3.2.2.1
    have ev : gVal (bUp B (198 + (100 * t + k)) (kLay B (100 * t + k) c v)) e = if gCh B e = 100 * t + k ∧ kOf B ((e / 100 : Nat) : Int) 2 = c then v else gVal B e := by
      show kV _ (gCh _ e) (kOf _ _ 2) = _
      rw [ech, hs.of (by omega), kV_lay hc01 (by omega) h2 hrg]
    rw [hs.of (by omega)] at hneed
    rw [ev]
    by_cases q : gCh B e = 100 * t + k ∧ kOf B ((e / 100 : Nat) : Int) 2 = c
    · rw [if_pos q]
      have d1 : gCh B e = 100 * kOf B ((e / 100 : Nat) : Int) 0 + ((e % 100 : Nat) : Int) := rfl
      have hk := h1.1.2.1
      have t1 : kOf B ((e / 100 : Nat) : Int) 0 = t := by omega
      have ro := kRo_at hI g2
      rw [t1, q.2] at ro
      intro z
      exact h3 ⟨z, by omega, by rw [ro]; exact hneed⟩
    · rw [if_neg q]
      exact h.1 e he row hneed
  · unfold lCnt
    rw [kAll_co hI hI2 (fun x _ _ => stay x), hs 2 (by decide), hs 3 (by decide)]
    exact h.2.1
/-- counted without a list's places -/
theorem cnt_list {p : Nat → Bool} (n : Nat) : ∀ (l : List Int) (q : Nat → Bool), l.Nodup → (∀ y ∈ l, 0 ≤ y ∧ y < n ∧ p y.toNat = true) → (∀ x : Nat, x < n → q x = (p x && !decide ((x : Int) ∈ l))) → cnt n q + l.length = cnt n p := by
  intro l
  induction l with
  | nil =>
    intro q _ _ hq
    rw [cnt_co (p := q) (q := p) (fun x hx => by rw [hq x hx]; simp)]
    simp
  | cons a r ih =>
    intro q hn hin hq
    obtain ⟨n1, n2⟩ := List.nodup_cons.mp hn
    obtain ⟨a1, a2, a3⟩ := hin a List.mem_cons_self
    have ha : ((a.toNat : Nat) : Int) = a := by omega
    have h1 := ih (fun x => p x && !decide ((x : Int) ∈ r)) n2 (fun y hy => hin y (List.mem_cons_of_mem _ hy)) (fun x _ => rfl)
    have h2 := cnt_drop (p := fun x : Nat => p x && !decide ((x : Int) ∈ r)) (q := fun x : Nat => p x && !decide ((x : Int) ∈ a :: r)) (k := a.toNat) n (by omega) (by
        rw [ha, a3, decide_eq_false n1]
        rfl) (by
        rw [ha, decide_eq_true (List.mem_cons_self)]
        simp) (fun j hj => by
        have : ((j : Int) ∈ a :: r) = ((j : Int) ∈ r) := propext ⟨fun z => (List.mem_cons.mp z).resolve_left (by omega), fun z => List.mem_cons_of_mem _ z⟩
        simp only [this])
    rw [cnt_co (p := q) (q := fun x : Nat => p x && !decide ((x : Int) ∈ a :: r)) hq, List.length_cons]
    omega
/-- how many rows a deletion leaves -/
theorem kAll_del (hI : bInv B) {x : Int} (hx : 0 ≤ x ∧ x < 600) (hc : 0 ≤ kCe B x) : kAll (kDel B x) + (kOut B x).length = kAll B := by
  obtain ⟨a1, a2, a3, a4, a5, a6⟩ := kDel_at hI hx hc
  obtain ⟨o1, o2⟩ := kOut_in hI.1 hI.ok.2.2 hx hc
  have hv := (kChg_val (mk := gMk B x) hI _ (Nat.le_refl _)).1
  rw [kAll_cnt hI, kAll_cnt (bInv_del hI hx hc)]
  refine cnt_list (p := fun y : Nat => decide (0 ≤ kCe B y)) 600 (kOut B x) _ (kOut_nodup hI.1 hx hc) (fun y hy => ?_) (fun y hy => ?_)
  · obtain ⟨⟨b1, b2⟩, b3⟩ := o2 y hy
    exact ⟨b1, by omega, by rw [show ((y.toNat : Nat) : Int) = y by omega]; exact decide_eq_true b3⟩
  · rw [a6 y (by omega)]
    by_cases q : (y : Int) ∈ kOut B x
    · rw [if_pos q, decide_eq_true q]
      simp
    · rw [if_neg q, decide_eq_false q]
      have := hv y (by omega) (by omega)
      by_cases z : 0 ≤ kCe B y
      · rw [decide_eq_true z, decide_eq_true (this.mpr z)]
        rfl
      · rw [decide_eq_false z, decide_eq_false (fun w => z (this.mp w))]
        rfl
theorem gBad_none {x : Int} (hn : kWhich B x = none) : ∀ e, e < gR B → gBad B (gMk B x) e = false := by
  have key : ∀ d n, n + d = gR B → fnx (gBad B (gMk B x)) (gR B) n = none → ∀ j, n ≤ j → j < gR B → gBad B (gMk B x) j = false := by
    intro d
    induction d with
    | zero => intro n h1 _ j h2 h3; omega
    | succ d ih =>
      intro n h1 h2 j h3 h4
      cases hb : gBad B (gMk B x) n with
      | true => rw [fnx_self (by omega) hb] at h2; cases h2
      | false =>
        rw [fnx_next (by omega) hb] at h2
        by_cases z : j = n
        · rw [z]; exact hb
        · exact ih (n + 1) (by omega) h2 j (by omega) h4
  exact fun e he => key (gR B) 0 (by omega) hn e (Nat.zero_le _) he
theorem lG_del (hI : bInv B) (hF : bFk B) (h : lG B) {x : Int} (hx : 0 ≤ x ∧ x < 600) (hc : 0 ≤ kCe B x) (hn : kWhich B x = none) : lG (kDel B x) := by
  have hAll := kAll_del hI hx hc
  obtain ⟨a1, a2, a3, a4, a5, a6⟩ := kDel_at hI hx hc
  obtain ⟨v1, v2⟩ := kChg_val (mk := gMk B x) hI _ (Nat.le_refl _)
  have hs := (kChg_wr (mk := gMk B x) hI.1 _ (Nat.le_refl _)).2
  have w1 := hI.1.2.1
  have mk0 : ∀ y, y ∉ kOut B x → gMk B x y = 0 := fun y hy => Classical.byContradiction (fun z => hy ((gMk_iff hI.1 hI.ok.2.2 hx hc y).mp z))
  refine ⟨fun e he hrow hneed => ?_, ?_, by rw [a1 0 (by decide) (by decide) (by decide) (by decide)]; exact h.2.2⟩
  · have hg : gR (kDel B x) = gR B := by unfold gR; rw [a1 1 (by decide) (by decide) (by decide) (by decide)]
    rw [hg] at he
    obtain ⟨hch, hr, hk, hcc, hne, hv, t1, t2⟩ := g_at hI.1 he
    have of : ∀ w : Int, 0 ≤ w → w < 6 → kOf (kDel B x) ((e / 100 : Nat) : Int) w = kOf B ((e / 100 : Nat) : Int) w := fun w h1 h2 => by
      unfold kOf
      exact a1 (6 + 6 * ((e / 100 : Nat) : Int) + w) (by omega) (by omega) (by omega) (by omega)
    have ech : gCh (kDel B x) e = gCh B e := by unfold gCh; rw [of 0 (by decide) (by decide)]
    have hrow' : 0 ≤ kCe (kDel B x) (gCh B e) := by rw [← ech]; exact hrow
    rw [of 4 (by decide) (by decide)] at hneed
    rw [a6 _ hch.1] at hrow'
    by_cases qo : gCh B e ∈ kOut B x
    · rw [if_pos qo] at hrow'
      omega
    · rw [if_neg qo] at hrow'
      have row : gRow B e := (v1 _ hch.1 hch.2).mp hrow'
      have mch := mk0 _ qo
      have ev : gVal (kDel B x) e = if gHitU B (gMk B x) e then gNew B e else gVal B e := by
        have g1 : gVal (kDel B x) e = gVal (kChg B (gMk B x) (gR B)) e := by
          show kV (kDel B x) (gCh (kDel B x) e) (kOf (kDel B x) _ 2) = kV _ (gCh _ e) (kOf _ _ 2)
          rw [ech, of 2 (by decide) (by decide), hs.ch hI.1 he, hs.of (by omega)]
          unfold kV
          rw [a6 _ hch.1, if_neg qo]
        rw [g1, v2 e he row]
        by_cases q : gHitU B (gMk B x) e
        · rw [if_pos ⟨he, q⟩, if_pos q]
        · rw [if_neg (fun z => q z.2), if_neg q]
      rw [ev]
      by_cases q : gHitU B (gMk B x) e
      · rw [if_pos q]
        have hw : ¬ 0 < gWhy B (gMk B x) e := fun z => by
          have := of_decide_eq_false (gBad_none hn e he)
          exact this ⟨q.1, z⟩
        unfold gWhy kWhy at hw
        have hne2 : gCh B e ≠ gPar B e := fun z => by
          have := q.1.2.2
          rw [← z] at this
          exact this mch
        by_cases r0 : kOf B ((e / 100 : Nat) : Int) 3 = 0
        · rw [if_pos r0, if_neg hne2] at hw
          omega
        · rw [if_neg r0, if_neg (fun z => z mch)] at hw
          by_cases r1 : kOf B ((e / 100 : Nat) : Int) 3 = 1
          · rw [if_pos r1] at hw
            omega
          · rw [if_neg r1] at hw
            by_cases r3 : kOf B ((e / 100 : Nat) : Int) 3 = 3 ∨ kOf B ((e / 100 : Nat) : Int) 5 = -1
            · rw [if_pos r3, if_pos hneed] at hw
              omega
            · unfold gNew
              rw [if_neg (fun z => r3 (Or.inl z))]
              exact fun z => r3 (Or.inr z)
      · rw [if_neg q]
        exact h.1 e he row hneed
  · unfold lCnt
    have h2 := h.2.1
    unfold lCnt at h2
    rw [a1 2 (by decide) (by decide) (by decide) (by decide), a2]
    have hr := cnt_le 600 (fun y : Nat => decide (0 ≤ kCe B y))
    have hr2 := cnt_nn 600 (fun y : Nat => decide (0 ≤ kCe (kDel B x) y))
    rw [← kAll_cnt hI] at hr
    rw [← kAll_cnt (bInv_del hI hx hc)] at hr2
    generalize kAll (kDel B x) = A at hAll hr2 ⊢
    generalize (kOut B x).length = len at hAll ⊢
    simp only [mm_w_eq] at h2 ⊢
    omega
end LG
