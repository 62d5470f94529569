-- THE INVARIANT OF BLOCKS is kept (pure)
theorem bInv.co {B B2 : Int → Int} (hI : bInv B) (h0 : B2 0 = B 0) (h1 : B2 1 = B 1) (hf : ∀ z, 6 ≤ z → z < 78 → B2 z = B z) (hr : ∀ x, 0 ≤ x → x < 600 → -1 ≤ kCe B2 x ∧ kCe B2 x ≤ 10200) (hw : bRow B2) (h5 : 0 ≤ B2 5 ∧ B2 5 ≤ 120) : bInv B2 := by
  obtain ⟨⟨w0, w1, w2, w3⟩, c2, hcol, ⟨hu1, hu2⟩, -, -⟩ := hI
  have of : ∀ (r w : Int), 0 ≤ r → r < B 1 → 0 ≤ w → w < 6 → kOf B2 r w = kOf B r w := fun r w a b c d => hf _ (by omega) (by omega)
  have cols : ∀ t, kCols B2 t = kCols B t := by
    intro t
    unfold kCols
    rw [h1]
    exact cnt_co fun e he => by rw [of e 0 (by omega) (by omega) (by omega) (by omega)]
  refine ⟨⟨by rw [h0]; exact w0, by rw [h1]; exact w1, fun r a b => ?_, hr⟩, fun t => by rw [cols]; exact c2 t, fun t c a b => ?_, ⟨fun r s a b c d => ?_, fun r a => ?_⟩, hw, h5⟩
  · rw [h1] at b
    have := w2 r a b
    unfold kRef at this ⊢
    rw [of r 0 a b (by omega) (by omega), of r 1 a b (by omega) (by omega), of r 2 a b (by omega) (by omega), of r 3 a b (by omega) (by omega), of r 4 a b (by omega) (by omega), of r 5 a b (by omega) (by omega), h0]
    exact this
  · rw [cols] at b
    obtain ⟨r, g1, g2, g3⟩ := hcol t c a b
    exact ⟨r, by rw [h1]; exact g1, by rw [of r 0 (by omega) g1 (by omega) (by omega)]; exact g2, by rw [of r 2 (by omega) g1 (by omega) (by omega)]; exact g3⟩
  · rw [h1] at a b
    rw [of r 0 (by omega) a (by omega) (by omega), of s 0 (by omega) b (by omega) (by omega)] at c
    rw [of r 2 (by omega) a (by omega) (by omega), of s 2 (by omega) b (by omega) (by omega)] at d
    exact hu1 r s a b c d
  · rw [h1] at a
    rw [of r 2 (by omega) a (by omega) (by omega), of r 0 (by omega) a (by omega) (by omega), cols]
    exact hu2 r a
theorem cnt_imp {p q : Nat → Bool} (n : Nat) (hp : ∀ k, k < n → p k = true → q k = true) : cnt n p ≤ cnt n q := by
  induction n with
  | zero => exact Int.le_refl _
  | succ n ih =>
    have := ih (fun k hk => hp k (by omega))
    rw [cnt_succ, cnt_succ]
    by_cases h : p n = true
    · rw [if_pos h, if_pos (hp n (by omega) h)]; omega
    · rw [if_neg h]
      split <;> omega
/-- rows go, or change their values -/
theorem bRow.less {B B2 : Int → Int} (h : bRow B) (h0 : B2 0 = B 0) (hc : ∀ x, 0 ≤ x → x < 600 → 0 ≤ kCe B2 x → 0 ≤ kCe B x) (hp : 0 ≤ B 0) : bRow B2 := by
  refine ⟨fun t ht => ?_, fun x h1 h2 => ?_⟩
  · have := h.1 t ht
    have h3 : kRows B2 t ≤ kRows B t := by
      unfold kRows
      refine cnt_imp 100 (fun k hk => ?_)
      rw [decide_eq_true_eq, decide_eq_true_eq]
      exact hc _ (by omega) (by omega)
    omega
  · rw [h0] at h1
    have := h.2 x h1 h2
    by_cases q : 0 ≤ kCe B2 x
    · have := hc x (by omega) h2 q
      omega
    · omega
theorem kCe_up {B : Int → Int} {x v y : Int} : kCe (bUp B (198 + x) v) y = if y = x then v else kCe B y := by
  unfold kCe bUp
  by_cases q : y = x
  · rw [if_pos q, if_pos (by omega)]
  · rw [if_neg q, if_neg (by omega)]
theorem bUp_lo {B : Int → Int} {x v z : Int} (hx : 0 ≤ x) (hz : z < 198) : bUp B (198 + x) v z = B z := bUp_ne (by omega)
/-- a row's number is changed, or the row goes -/
theorem bInv.up {B : Int → Int} {x v : Int} (hI : bInv B) (hx : 0 ≤ x ∧ x < 600) (hv : -1 ≤ v ∧ v ≤ 10200) (hr : 0 ≤ kCe B x ∨ v < 0) : bInv (bUp B (198 + x) v) := by
  refine hI.co (bUp_lo hx.1 (by decide)) (bUp_lo hx.1 (by decide)) (fun z _ h2 => bUp_lo hx.1 (by omega)) (fun y h1 h2 => ?_) (hI.2.2.2.2.1.less (bUp_lo hx.1 (by decide)) (fun y h1 h2 => ?_) hI.1.1.1) ?_
  · rw [kCe_up]
    split
    · exact hv
    · exact hI.1.2.2.2 y h1 h2
  · rw [kCe_up]
    split
    · rename_i q
      subst q
      omega
    · exact id
  · rw [bUp_lo hx.1 (by decide)]
    exact hI.2.2.2.2.2
/-- a row comes -/
theorem kRows_in {B : Int → Int} {t k v : Int} (hk : 0 ≤ k ∧ k < 100) (hc : kCe B (100 * t + k) < 0) (hv : 0 ≤ v) : kRows (bUp B (198 + (100 * t + k)) v) t = kRows B t + 1 := by
  have := cnt_drop (p := fun j => decide (0 ≤ kCe (bUp B (198 + (100 * t + k)) v) (100 * t + j))) (q := fun j => decide (0 ≤ kCe B (100 * t + j))) (k := k.toNat) 100 (by omega) (by
    rw [decide_eq_true_eq, kCe_up, if_pos (by omega)]
    exact hv) (decide_eq_false (by rw [show 100 * t + ((k.toNat : Nat) : Int) = 100 * t + k by omega]; omega)) (fun j hj => by rw [kCe_up, if_neg (by omega)])
  unfold kRows
  omega
theorem bInv.ins {B B2 : Int → Int} {t k v : Int} (hI : bInv B) (ht : 0 ≤ t ∧ t < B 0) (hk : 0 ≤ k ∧ k < 100) (hv : 0 ≤ v ∧ v ≤ 10200) (hc : kCe B (100 * t + k) < 0) (hm : kRows B t < 20) (h2 : ∀ z, z ≠ 2 → B2 z = bUp B (198 + (100 * t + k)) v z) : bInv B2 := by
  have w0 := hI.1.1
  have hce : ∀ y, 0 ≤ y → kCe B2 y = if y = 100 * t + k then v else kCe B y := by
    intro y hy
    rw [← kCe_up]
    exact h2 _ (by omega)
  have h0 : B2 0 = B 0 := by rw [h2 0 (by decide)]; exact bUp_lo (by omega) (by decide)
  refine hI.co h0 (by rw [h2 1 (by decide)]; exact bUp_lo (by omega) (by decide)) (fun z a b => by rw [h2 z (by omega)]; exact bUp_lo (by omega) (by omega)) (fun y a b => ?_) ⟨fun s hs => ?_, fun y a b => ?_⟩ ?_
  · rw [hce y a]
    split
    · omega
    · exact hI.1.2.2.2 y a b
  · by_cases q : (s : Int) = t
    · have e1 := kRows_in (B := B) (t := t) hk hc hv.1
      have e2 : kRows B2 s = kRows (bUp B (198 + (100 * t + k)) v) t := by
        rw [q]
        unfold kRows
        exact cnt_co fun j hj => by rw [hce _ (by omega), kCe_up]
      omega
    · have e2 : kRows B2 s = kRows B s := by
        unfold kRows
        exact cnt_co fun j hj => by rw [hce _ (by omega), if_neg (by omega)]
      rw [e2]
      exact hI.2.2.2.2.1.1 s hs
  · rw [hce y (by omega), if_neg (by omega)]
    rw [h0] at a
    exact hI.2.2.2.2.1.2 y a b
  · rw [h2 5 (by decide), bUp_lo (by omega) (by decide)]
    exact hI.2.2.2.2.2
/-- a table comes -/
theorem bInv.tab {B : Int → Int} (hI : bInv B) (h6 : B 0 < 6) : bInv (bUp B 0 (B 0 + 1)) := by
  obtain ⟨⟨w0, w1, w2, w3⟩, c2, hcol, ⟨hu1, hu2⟩, hrow, h5⟩ := hI
  have ne : ∀ z, z ≠ 0 → bUp B 0 (B 0 + 1) z = B z := fun z hz => bUp_ne hz
  have of : ∀ (r w : Int), 0 ≤ r → 0 ≤ w → kOf (bUp B 0 (B 0 + 1)) r w = kOf B r w := fun r w a b => ne _ (by omega)
  have e0 : bUp B 0 (B 0 + 1) 0 = B 0 + 1 := bUp_at
  have e1 : bUp B 0 (B 0 + 1) 1 = B 1 := ne 1 (by decide)
  have cols : ∀ t, kCols (bUp B 0 (B 0 + 1)) t = kCols B t := by
    intro t
    unfold kCols
    rw [e1]
    exact cnt_co fun e he => by rw [of e 0 (by omega) (by omega)]
  have ce : ∀ x, 0 ≤ x → kCe (bUp B 0 (B 0 + 1)) x = kCe B x := fun x hx => ne _ (by omega)
  refine ⟨⟨by rw [e0]; omega, by rw [e1]; exact w1, fun r a b => ?_, fun x a b => by rw [ce x a]; exact w3 x a b⟩, fun t => by rw [cols]; exact c2 t, fun t c a b => ?_, ⟨fun r s a b c d => ?_, fun r a => ?_⟩, ⟨fun t ht => ?_, fun x a b => ?_⟩, by rw [ne 5 (by decide)]; exact h5⟩
  · rw [e1] at b
    have := w2 r a b
    unfold kRef at this ⊢
    rw [of r 0 a (by omega), of r 1 a (by omega), of r 2 a (by omega), of r 3 a (by omega), of r 4 a (by omega), of r 5 a (by omega), e0]
    omega
  · rw [cols] at b
    obtain ⟨r, g1, g2, g3⟩ := hcol t c a b
    exact ⟨r, by rw [e1]; exact g1, by rw [of r 0 (by omega) (by omega)]; exact g2, by rw [of r 2 (by omega) (by omega)]; exact g3⟩
  · rw [e1] at a b
    rw [of r 0 (by omega) (by omega), of s 0 (by omega) (by omega)] at c
    rw [of r 2 (by omega) (by omega), of s 2 (by omega) (by omega)] at d
    exact hu1 r s a b c d
  · rw [e1] at a
    rw [of r 2 (by omega) (by omega), of r 0 (by omega) (by omega), cols]
    exact hu2 r a
  · rw [kRows_co (B := B) (fun k a b => ce _ (by omega))]
    exact hrow.1 t ht
  · rw [e0] at a
    rw [ce x (by omega)]
    exact hrow.2 x (by omega) b
/-- a rule changes -/
theorem bInv.rule {B : Int → Int} {r v : Int} (hI : bInv B) (hr : 0 ≤ r ∧ r < B 1) (hv : 0 ≤ v ∧ v ≤ 4) : bInv (bUp B (6 + 6 * r + 3) v) := by
  obtain ⟨⟨w0, w1, w2, w3⟩, c2, hcol, ⟨hu1, hu2⟩, hrow, h5⟩ := hI
  have of : ∀ (s w : Int), 0 ≤ w → w < 6 → w ≠ 3 → kOf (bUp B (6 + 6 * r + 3) v) s w = kOf B s w := fun s w a b c => bUp_ne (by omega)
  have e0 : bUp B (6 + 6 * r + 3) v 0 = B 0 := bUp_ne (by omega)
  have e1 : bUp B (6 + 6 * r + 3) v 1 = B 1 := bUp_ne (by omega)
  have cols : ∀ t, kCols (bUp B (6 + 6 * r + 3) v) t = kCols B t := by
    intro t
    unfold kCols
    rw [e1]
    exact cnt_co fun e he => by rw [of e 0 (by omega) (by omega) (by omega)]
  have ce : ∀ x, 0 ≤ x → kCe (bUp B (6 + 6 * r + 3) v) x = kCe B x := fun x hx => bUp_ne (by omega)
  refine ⟨⟨by rw [e0]; exact w0, by rw [e1]; exact w1, fun s a b => ?_, fun x a b => by rw [ce x a]; exact w3 x a b⟩, fun t => by rw [cols]; exact c2 t, fun t c a b => ?_, ⟨fun r s a b c d => ?_, fun r a => ?_⟩, ⟨fun t ht => ?_, fun x a b => ?_⟩, by rw [bUp_ne (by omega)]; exact h5⟩
  · rw [e1] at b
    have := w2 s a b
    unfold kRef at this ⊢
    rw [of s 0 (by omega) (by omega) (by omega), of s 1 (by omega) (by omega) (by omega), of s 2 (by omega) (by omega) (by omega), of s 4 (by omega) (by omega) (by omega), of s 5 (by omega) (by omega) (by omega), e0]
    have h3 : 0 ≤ kOf (bUp B (6 + 6 * r + 3) v) s 3 ∧ kOf (bUp B (6 + 6 * r + 3) v) s 3 ≤ 4 := by
      show 0 ≤ bUp B (6 + 6 * r + 3) v (6 + 6 * s + 3) ∧ bUp B (6 + 6 * r + 3) v (6 + 6 * s + 3) ≤ 4
      unfold bUp
      split
      · exact hv
      · exact this.2.2.2.1
    exact ⟨this.1, this.2.1, this.2.2.1, h3, this.2.2.2.2⟩
  · rw [cols] at b
    obtain ⟨s, g1, g2, g3⟩ := hcol t c a b
    exact ⟨s, by rw [e1]; exact g1, by rw [of s 0 (by omega) (by omega) (by omega)]; exact g2, by rw [of s 2 (by omega) (by omega) (by omega)]; exact g3⟩
  · rw [e1] at a b
    rw [of r 0 (by omega) (by omega) (by omega), of s 0 (by omega) (by omega) (by omega)] at c
    rw [of r 2 (by omega) (by omega) (by omega), of s 2 (by omega) (by omega) (by omega)] at d
    exact hu1 r s a b c d
  · rw [e1] at a
    rw [of r 2 (by omega) (by omega) (by omega), of r 0 (by omega) (by omega) (by omega), cols]
    exact hu2 r a
  · rw [kRows_co (B := B) (fun k a b => ce _ (by omega))]
    exact hrow.1 t ht
  · rw [e0] at a
    rw [ce x (by omega)]
    exact hrow.2 x a b
/-- a reference comes -/
theorem kAddRB_at {B : Int → Int} {c p rule q d : Int} (h1 : 0 ≤ B 1) : kAddRB B c p rule q d 1 = B 1 + 1 ∧ kOf (kAddRB B c p rule q d) (B 1) 0 = c ∧ kOf (kAddRB B c p rule q d) (B 1) 1 = p ∧ kOf (kAddRB B c p rule q d) (B 1) 2 = kCols B c ∧ kOf (kAddRB B c p rule q d) (B 1) 3 = rule ∧ kOf (kAddRB B c p rule q d) (B 1) 4 = (if q = 0 then 0 else 1) ∧ kOf (kAddRB B c p rule q d) (B 1) 5 = d := by
  refine ⟨bUp_at, ?_, ?_, ?_, ?_, ?_, ?_⟩
  · show kAddRB B c p rule q d (6 + 6 * B 1 + 0) = _
    unfold kAddRB
    rw [bUp_ne (by omega), bUp_ne (by omega), bUp_ne (by omega), bUp_ne (by omega), bUp_ne (by omega), bUp_ne (by omega), bUp_at]
  · show kAddRB B c p rule q d (6 + 6 * B 1 + 1) = _
    unfold kAddRB
    rw [bUp_ne (by omega), bUp_ne (by omega), bUp_ne (by omega), bUp_ne (by omega), bUp_ne (by omega), bUp_at]
  · show kAddRB B c p rule q d (6 + 6 * B 1 + 2) = _
    unfold kAddRB
    rw [bUp_ne (by omega), bUp_ne (by omega), bUp_ne (by omega), bUp_ne (by omega), bUp_at]
  · show kAddRB B c p rule q d (6 + 6 * B 1 + 3) = _
    unfold kAddRB
    rw [bUp_ne (by omega), bUp_ne (by omega), bUp_ne (by omega), bUp_at]
  · show kAddRB B c p rule q d (6 + 6 * B 1 + 4) = _
    unfold kAddRB
    rw [bUp_ne (by omega), bUp_ne (by omega), bUp_at]
  · show kAddRB B c p rule q d (6 + 6 * B 1 + 5) = _
    unfold kAddRB
    rw [bUp_ne (by omega), bUp_at]
theorem kAddRB_ne {B : Int → Int} {c p rule q d z : Int} (h1 : z ≠ 1) (h2 : ¬ (6 + 6 * B 1 ≤ z ∧ z < 12 + 6 * B 1)) : kAddRB B c p rule q d z = B z := by
  unfold kAddRB
  rw [bUp_ne h1, bUp_ne (by omega), bUp_ne (by omega), bUp_ne (by omega), bUp_ne (by omega), bUp_ne (by omega), bUp_ne (by omega)]
theorem kAddRB_cols {B : Int → Int} {c p rule q d : Int} (h1 : 0 ≤ B 1) (t : Int) : kCols (kAddRB B c p rule q d) t = kCols B t + (if c = t then 1 else 0) := by
  obtain ⟨a1, a2, a3, a4, a5, a6, a7⟩ := kAddRB_at (B := B) (c := c) (p := p) (rule := rule) (q := q) (d := d) h1
  unfold kCols
  rw [a1, show (B 1 + 1).toNat = (B 1).toNat + 1 by omega, cnt_succ, show (((B 1).toNat : Nat) : Int) = B 1 by omega, a2]
  congr 1
  · exact cnt_co fun e he => by
      rw [show kOf (kAddRB B c p rule q d) e 0 = kOf B e 0 from kAddRB_ne (by omega) (by omega)]
  · simp
theorem bInv.ref {B : Int → Int} {c p rule q d : Int} (hI : bInv B) (hc : 0 ≤ c ∧ c < B 0) (hp : 0 ≤ p ∧ p < B 0) (hru : 0 ≤ rule ∧ rule ≤ 4) (hd : -1 ≤ d ∧ d ≤ 99) (hm : B 1 < 12) (hcm : kCols B c < 2) : bInv (kAddRB B c p rule q d) := by
  obtain ⟨⟨w0, w1, w2, w3⟩, c2, hcol, ⟨hu1, hu2⟩, hrow, h5⟩ := hI
  obtain ⟨a1, a2, a3, a4, a5, a6, a7⟩ := kAddRB_at (B := B) (c := c) (p := p) (rule := rule) (q := q) (d := d) w1.1
  have cc : 0 ≤ kCols B c := cnt_nn _ _
  have of : ∀ (s w : Int), 0 ≤ s → s < B 1 → 0 ≤ w → w < 6 → kOf (kAddRB B c p rule q d) s w = kOf B s w := fun s w a b x y => kAddRB_ne (by omega) (by omega)
  have e0 : kAddRB B c p rule q d 0 = B 0 := kAddRB_ne (by omega) (by omega)
  have cols := kAddRB_cols (B := B) (c := c) (p := p) (rule := rule) (q := q) (d := d) w1.1
  have ce : ∀ x, 0 ≤ x → kCe (kAddRB B c p rule q d) x = kCe B x := fun x hx => kAddRB_ne (by omega) (by omega)
  refine ⟨⟨by rw [e0]; exact w0, by rw [a1]; omega, fun s a b => ?_, fun x a b => by rw [ce x a]; exact w3 x a b⟩, fun t => ?_, fun t k a b => ?_, ⟨fun r s a b x y => ?_, fun r a => ?_⟩, ⟨fun t ht => ?_, fun x a b => ?_⟩, by rw [kAddRB_ne (by omega) (by omega)]; exact h5⟩
  · rw [a1] at b
    by_cases e : s = B 1
    · subst e
      unfold kRef
      rw [a2, a3, a4, a5, a6, a7, e0]
      refine ⟨hc, hp, by omega, hru, ?_, hd⟩
      split <;> omega
    · have := w2 s a (by omega)
      unfold kRef at this ⊢
      rw [of s 0 a (by omega) (by omega) (by omega), of s 1 a (by omega) (by omega) (by omega), of s 2 a (by omega) (by omega) (by omega), of s 3 a (by omega) (by omega) (by omega), of s 4 a (by omega) (by omega) (by omega), of s 5 a (by omega) (by omega) (by omega), e0]
      exact this
  · rw [cols]
    have := c2 t
    split
    · rename_i e; subst e; omega
    · omega
  · rw [cols] at b
    by_cases e : k < kCols B t
    · obtain ⟨s, g1, g2, g3⟩ := hcol t k a e
      exact ⟨s, by rw [a1]; omega, by rw [of s 0 (by omega) (by omega) (by omega) (by omega)]; exact g2, by rw [of s 2 (by omega) (by omega) (by omega) (by omega)]; exact g3⟩
    · by_cases e2 : c = t
      · rw [if_pos e2] at b
        refine ⟨(B 1).toNat, by rw [a1]; omega, ?_, ?_⟩
        · rw [show (((B 1).toNat : Nat) : Int) = B 1 by omega, a2]; exact e2
        · rw [show (((B 1).toNat : Nat) : Int) = B 1 by omega, a4, e2]; omega
      · rw [if_neg e2] at b
        omega
  · rw [a1] at a b
    have old : ∀ r : Nat, (r : Int) < B 1 → kOf B r 0 = c → kOf B r 2 < kCols B c := fun r h1 h2 => by have := hu2 r h1; rw [h2] at this; exact this
    by_cases er : (r : Int) = B 1
    · by_cases es : (s : Int) = B 1
      · omega
      · rw [er, a2, of s 0 (by omega) (by omega) (by omega) (by omega)] at x
        rw [er, a4, of s 2 (by omega) (by omega) (by omega) (by omega)] at y
        have := old s (by omega) x.symm
        omega
    · by_cases es : (s : Int) = B 1
      · rw [es, a2, of r 0 (by omega) (by omega) (by omega) (by omega)] at x
        rw [es, a4, of r 2 (by omega) (by omega) (by omega) (by omega)] at y
        have := old r (by omega) x
        omega
      · rw [of r 0 (by omega) (by omega) (by omega) (by omega), of s 0 (by omega) (by omega) (by omega) (by omega)] at x
        rw [of r 2 (by omega) (by omega) (by omega) (by omega), of s 2 (by omega) (by omega) (by omega) (by omega)] at y
        exact hu1 r s (by omega) (by omega) x y
  · rw [a1] at a
    rw [cols]
    by_cases er : (r : Int) = B 1
    · rw [er, a4, a2, if_pos rfl]; omega
    · rw [of r 2 (by omega) (by omega) (by omega) (by omega), of r 0 (by omega) (by omega) (by omega) (by omega)]
      have := hu2 r (by omega)
      split <;> omega
  · rw [kRows_co (B := B) (fun k a b => ce _ (by omega))]
    exact hrow.1 t ht
  · rw [e0] at a
    rw [ce x (by omega)]
    exact hrow.2 x a b
/-- values that name rows -/
theorem bFk.co {B B2 : Int → Int} (hI : bInv B) (hF : bFk B) (h1 : B2 1 = B 1) (hf : ∀ (r w : Int), 0 ≤ r → r < B 1 → 0 ≤ w → w < 3 → kOf B2 r w = kOf B r w) (hc : ∀ x, 0 ≤ x → kCe B2 x = kCe B x) : bFk B2 := by
  intro e he hrow hv
  have hg : gR B2 = gR B := by unfold gR; rw [h1]
  rw [hg] at he
  obtain ⟨hch, hr, hk, hcc, hne, hvv, t1, t2⟩ := g_at hI.1 he
  have w1 := hI.1.2.1
  have e1 : gCh B2 e = gCh B e := by unfold gCh; rw [hf _ 0 (by omega) hr (by omega) (by omega)]
  have e2 : gVal B2 e = gVal B e := by
    show kV B2 (gCh B2 e) (kOf B2 _ 2) = kV B (gCh B e) (kOf B _ 2)
    rw [e1, hf _ 2 (by omega) hr (by omega) (by omega)]
    unfold kV
    rw [hc _ hch.1]
  have hrow' : gRow B e := by
    have : 0 ≤ kCe B2 (gCh B2 e) := hrow
    rw [e1, hc _ hch.1] at this
    exact this
  have hv' : gVal B e ≠ -1 := by rw [← e2]; exact hv
  have hp := (hvv hrow').2 hv'
  have e3 : gPar B2 e = gPar B e := by
    show 100 * kOf B2 _ 1 + gVal B2 e = 100 * kOf B _ 1 + gVal B e
    rw [e2, hf _ 1 (by omega) hr (by omega) (by omega)]
  rw [e3, hc _ hp.1]
  exact hF e he hrow' hv'
