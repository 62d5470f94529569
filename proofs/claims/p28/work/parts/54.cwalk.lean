-- THE CLASS: walks over the rows of a table
/-- the key ahead of which a walk stands at a rank -/
def cAt (mi : mm_M) (a t j : Nat) : Nat := if j = 0 then 0 else if (j : Int) ≤ cRc mi a t then (cKy mi a t (j - 1)).toNat + 1 else 100
theorem steady {α : Type} {f : Nat → α} {lo hi : Nat} (h : lo ≤ hi) (hf : ∀ e, lo ≤ e → e < hi → f (e + 1) = f e) : f hi = f lo := by
  obtain ⟨d, rfl⟩ := Nat.exists_eq_add_of_le h
  clear h
  induction d with
  | zero => rfl
  | succ d ih =>
    rw [show lo + (d + 1) = (lo + d) + 1 from rfl, hf (lo + d) (by omega) (by omega)]
    exact ih (fun e h1 h2 => hf e h1 (by omega))
theorem cTb.gap {mi : mm_M} {a t : Nat} {B : Int → Int} (hT : cTb mi a B t) {j k : Nat} (h1 : cAt mi a t j ≤ k) (h2 : k < 100) (h3 : (j : Int) < cRc mi a t → (k : Int) < cKy mi a t j) : kCe B (100 * t + k) < 0 := by
  obtain ⟨hrc, hz, hrow, hso, hco⟩ := hT
  by_cases q : 0 ≤ kCe B (100 * t + k)
  · obtain ⟨i, hi, ei⟩ := hco k h2 q
    exfalso
    unfold cAt at h1
    by_cases q2 : i < j
    · rw [if_neg (by omega)] at h1
      by_cases q3 : (j : Int) ≤ cRc mi a t
      · rw [if_pos q3] at h1
        have k1 := (hrow (j - 1) (by omega)).1
        by_cases q4 : i = j - 1
        · subst q4; omega
        · have := hso i (j - 1) (by omega) (by omega); omega
      · rw [if_neg q3] at h1; omega
    · have g := h3 (by omega)
      by_cases q4 : i = j
      · subst q4; omega
      · have := hso j i (by omega) hi; omega
  · omega
theorem cTb.le {mi : mm_M} {a t : Nat} {B : Int → Int} (hT : cTb mi a B t) (j : Nat) : cAt mi a t j ≤ 100 ∧ ((j : Int) < cRc mi a t → (cAt mi a t j : Int) ≤ cKy mi a t j) := by
  obtain ⟨hrc, hz, hrow, hso, hco⟩ := hT
  unfold cAt
  by_cases q : j = 0
  · rw [if_pos q]
    exact ⟨by omega, fun h => by have := (hrow j h).1; omega⟩
  · rw [if_neg q]
    by_cases q2 : (j : Int) ≤ cRc mi a t
    · rw [if_pos q2]
      have k1 := (hrow (j - 1) (by omega)).1
      refine ⟨by omega, fun h => ?_⟩
      have := hso (j - 1) j (by omega) h
      omega
    · rw [if_neg q2]
      exact ⟨by omega, fun h => by omega⟩
def cTr (B : Int → Int) (r : Nat) : Nat := (kOf B r 0).toNat
/-- a place of the class (20 r + rank) as a place of the reference (100 r + key) -/
def cPl (mi : mm_M) (B : Int → Int) (p : Nat) : Nat := 100 * (p / 20) + cAt mi 1 (cTr B (p / 20)) (p % 20)
def cEr (mi : mm_M) (B : Int → Int) (p : Nat) : Nat := 100 * (p / 20) + (cKy mi 1 (cTr B (p / 20)) (p % 20)).toNat
/-- is there a row at a place -/
abbrev cRw (mi : mm_M) (B : Int → Int) (p : Nat) : Prop := ((p % 20 : Nat) : Int) < cRc mi 1 (cTr B (p / 20))
theorem gCh_at {B : Int → Int} {r k : Nat} (hk : k < 100) : gCh B (100 * r + k) = 100 * kOf B r 0 + k := by
  unfold gCh
  rw [show (100 * r + k) / 100 = r by omega, show (100 * r + k) % 100 = k by omega]
section CW
variable {mi : mm_M} {B : Int → Int}
/-- what the walks ask of a State (it needs no more while rows go) -/
theorem cW_tb (hS : cS mi 1 B) {r : Nat} (hr : (r : Int) < B 1) : cTb mi 1 B (cTr B r) ∧ ((cTr B r : Nat) : Int) = kOf B r 0 ∧ cTr B r < 6 := by
  have hk := (hS.1.1.2.2.1 r (by omega) hr).1
  have w0 := hS.1.1.1
  have e : ((cTr B r : Nat) : Int) = kOf B r 0 := by unfold cTr; omega
  have h6 : cTr B r < 6 := by omega
  exact ⟨hS.2.2.2.2 _ h6, e, h6⟩
theorem cW_gap (hS : cS mi 1 B) {r j e : Nat} (hr : (r : Int) < B 1) (h1 : 100 * r + cAt mi 1 (cTr B r) j ≤ e) (h2 : e < 100 * r + 100) (h3 : (j : Int) < cRc mi 1 (cTr B r) → (e : Int) < 100 * r + cKy mi 1 (cTr B r) j) : ¬ gRow B e := by
  obtain ⟨hT, e1, e2⟩ := cW_tb hS hr
  have g := hT.gap (j := j) (k := e - 100 * r) (by omega) (by omega) (fun h => by have := h3 h; omega)
  have := gCh_at (B := B) (r := r) (k := e - 100 * r) (by omega)
  rw [show 100 * r + (e - 100 * r) = e by omega] at this
  show ¬ 0 ≤ kCe B (gCh B e)
  rw [this, ← e1]
  omega
theorem gR_i (hS : cS mi 1 B) : (gR B : Int) = 100 * B 1 := by
  have w1 := hS.1.1.2.1
  unfold gR
  omega
theorem cW_row (hS : cS mi 1 B) {α : Type} {f : Nat → α} (hf : ∀ e, e < gR B → ¬ gRow B e → f (e + 1) = f e) {p : Nat} (hp : (p : Int) < 20 * B 1) (hj : cRw mi B p) : f (cEr mi B p) = f (cPl mi B p) ∧ f (cPl mi B (p + 1)) = f (cEr mi B p + 1) := by
  have hr : ((p / 20 : Nat) : Int) < B 1 := by omega
  have hg := gR_i hS
  obtain ⟨hT, e1, e2⟩ := cW_tb hS hr
  have hj2 : p % 20 < 20 := Nat.mod_lt _ (by decide)
  have hk := (hT.2.2.1 _ hj).1
  have hle := (hT.le (p % 20)).2 hj
  have hrc := hT.1
  refine ⟨steady (by unfold cPl cEr; omega) (fun e h1 h2 => hf e ?_ (cW_gap hS hr (j := p % 20) h1 ?_ (fun _ => ?_))), ?_⟩
  · unfold cEr at h2; omega
  · unfold cEr at h2; omega
  · unfold cEr at h2; omega
  · have hn : cEr mi B p + 1 = 100 * (p / 20) + cAt mi 1 (cTr B (p / 20)) (p % 20 + 1) := by
      unfold cAt cEr
      rw [if_neg (by omega), if_pos (by unfold cRw at hj; omega)]
      rfl
    rw [hn]
    by_cases q : p % 20 + 1 < 20
    · unfold cPl
      rw [show (p + 1) / 20 = p / 20 by omega, show (p + 1) % 20 = p % 20 + 1 by omega]
    · unfold cPl
      rw [show (p + 1) / 20 = p / 20 + 1 by omega, show (p + 1) % 20 = 0 by omega]
      have hz : cAt mi 1 (cTr B (p / 20 + 1)) 0 = 0 := rfl
      rw [hz]
      refine steady (by have := (hT.le (p % 20 + 1)).1; omega) (fun e h1 h2 => hf e ?_ (cW_gap hS hr (j := p % 20 + 1) h1 (by omega) (fun h => by omega)))
      omega
theorem cW_no (hS : cS mi 1 B) {α : Type} {f : Nat → α} (hf : ∀ e, e < gR B → ¬ gRow B e → f (e + 1) = f e) {p : Nat} (hp : (p : Int) < 20 * B 1) (hj : ¬ cRw mi B p) : f (cPl mi B (p + 1)) = f (cPl mi B p) := by
  have hr : ((p / 20 : Nat) : Int) < B 1 := by omega
  have hg := gR_i hS
  obtain ⟨hT, e1, e2⟩ := cW_tb hS hr
  have hj2 : p % 20 < 20 := Nat.mod_lt _ (by decide)
  have hle := (hT.le (p % 20)).1
  have hn : cPl mi B (p + 1) = 100 * (p / 20) + 100 := by
    unfold cPl
    by_cases q : p % 20 + 1 < 20
    · rw [show (p + 1) / 20 = p / 20 by omega, show (p + 1) % 20 = p % 20 + 1 by omega]
      unfold cAt
      rw [if_neg (by omega), if_neg (by unfold cRw at hj; omega)]
    · rw [show (p + 1) / 20 = p / 20 + 1 by omega, show (p + 1) % 20 = 0 by omega]
      have hz : cAt mi 1 (cTr B (p / 20 + 1)) 0 = 0 := rfl
      rw [hz]
      omega
  rw [hn]
  refine steady (by unfold cPl; omega) (fun e h1 h2 => hf e (by omega) (cW_gap hS hr (j := p % 20) h1 (by omega) (fun h => absurd h hj)))
/-- the row at a place -/
theorem cW_val (hS : cS mi 1 B) {p : Nat} (hp : (p : Int) < 20 * B 1) (hj : cRw mi B p) : gRow B (cEr mi B p) ∧ gCh B (cEr mi B p) = 100 * kOf B ((p / 20 : Nat) : Int) 0 + cKy mi 1 (cTr B (p / 20)) (p % 20) ∧ gVal B (cEr mi B p) = cVl mi 1 (cTr B (p / 20)) (p % 20) (kOf B ((p / 20 : Nat) : Int) 2).toNat ∧ cEr mi B p / 100 = p / 20 ∧ cEr mi B p < gR B ∧ (0 ≤ cKy mi 1 (cTr B (p / 20)) (p % 20) ∧ cKy mi 1 (cTr B (p / 20)) (p % 20) ≤ 99) := by
  have hr : ((p / 20 : Nat) : Int) < B 1 := by omega
  have hg := gR_i hS
  obtain ⟨hT, e1, e2⟩ := cW_tb hS hr
  have hk := (hT.2.2.1 _ hj).1
  have hcol := (hS.1.1.2.2.1 _ (by omega) hr).2.2.1
  obtain ⟨r1, r2, r3, r4⟩ := cRow hS e2 hj
  have hc : gCh B (cEr mi B p) = 100 * kOf B ((p / 20 : Nat) : Int) 0 + cKy mi 1 (cTr B (p / 20)) (p % 20) := by
    unfold cEr
    rw [gCh_at (by omega)]
    omega
  have hd : cEr mi B p / 100 = p / 20 := by unfold cEr; omega
  rw [e1] at r1 r2 r3
  refine ⟨?_, hc, ?_, hd, by unfold cEr; omega, hk⟩
  · show 0 ≤ kCe B (gCh B (cEr mi B p))
    rw [hc]
    exact r1.2.2
  · show kV B (gCh B (cEr mi B p)) (kOf B ((cEr mi B p / 100 : Nat) : Int) 2) = _
    rw [hc, hd]
    by_cases q : kOf B ((p / 20 : Nat) : Int) 2 = 0
    · rw [q]; exact r2
    · rw [show kOf B ((p / 20 : Nat) : Int) 2 = 1 by omega]
      exact r3 1 (by decide)
end CW
section CX
variable {X : Nat × (Nat → Int)} {mi : mm_M} {h : mm_H} {Q : Option mm_V → mm_S → Prop} {B : Int → Int}
theorem cVl_in (hS : cS mi 1 B) {p : Nat} (hp : (p : Int) < 20 * B 1) (hj : cRw mi B p) : -1 ≤ gVal B (cEr mi B p) ∧ gVal B (cEr mi B p) ≤ 99 := by
  obtain ⟨v1, v2, v3, v4, v5, v6⟩ := cW_val hS hp hj
  exact ((g_at hS.1.1 v5).2.2.2.2.2.1 v1).1
theorem sp43 (hS : cS mi 1 B) {r j p : Nat} (hp : (p : Int) < 20 * B 1) (hr : r = p / 20) (hj : j = p % 20) : mcl X 43 [.inr (some 1), .inl (r : Int), .inl (j : Int)] (mm_ms0 mi h) Q = Q (some (.inl (if cRw mi B p then gCh B (cEr mi B p) else -1))) (mm_ms0 mi h) := by
  subst hr
  subst hj
  have hr : ((p / 20 : Nat) : Int) < B 1 := by omega
  obtain ⟨hT, e1, e2⟩ := cW_tb hS hr
  have hrc := hT.1
  rw [c43, b43_0, sp41 hS (by omega) (by omega), mm_psh_i, b43_6, mm_andT (by omega), b43_14, show mi 2 (kOf B ((p / 20 : Nat) : Int) 0).toNat = cRc mi 1 (cTr B (p / 20)) from rfl]
  by_cases q : cRw mi B p
  · obtain ⟨v1, v2, v3, v4, v5, v6⟩ := cW_val hS hp q
    have q' : ((p % 20 : Nat) : Int) < cRc mi 1 (cTr B (p / 20)) := q
    rw [if_pos q, if_pos q, b43_17, mm_wi (z := kOf B ((p / 20 : Nat) : Int) 0 * 20) (by omega) (by omega), mm_wi (z := kOf B ((p / 20 : Nat) : Int) 0 * 20 + ((p % 20 : Nat) : Int)) (by omega) (by omega), mm_andT (by omega), b43_29]
    have e3 : mi 6 (kOf B ((p / 20 : Nat) : Int) 0 * 20 + ((p % 20 : Nat) : Int)).toNat = cKy mi 1 (cTr B (p / 20)) (p % 20) := congrArg (mi 6) (by omega)
    rw [e3, sp89 (by omega) (by omega), mm_psh_i, b43_32, b43_36, v2]
  · rw [if_neg q, if_neg q, b43_35, b43_36]
theorem sp44 (hS : cS mi 1 B) {r j p : Nat} (hp : (p : Int) < 20 * B 1) (hr : r = p / 20) (hj : j = p % 20) : mcl X 44 [.inr (some 1), .inl (r : Int), .inl (j : Int)] (mm_ms0 mi h) Q = Q (some (.inl (if cRw mi B p ∧ gVal B (cEr mi B p) ≠ -1 then gPar B (cEr mi B p) else -1))) (mm_ms0 mi h) := by
  subst hr
  subst hj
  have hr : ((p / 20 : Nat) : Int) < B 1 := by omega
  obtain ⟨hT, e1, e2⟩ := cW_tb hS hr
  have hrc := hT.1
  have hk := hS.1.1.2.2.1 _ (by omega) hr
  have w0 := hS.1.1.1
  have hcol := hk.2.2.1
  have hpar := hk.2.1
  rw [c44, b44_0, sp41 hS (by omega) (by omega), mm_psh_i, b44_6, mm_andT (by omega), b44_14, show mi 2 (kOf B ((p / 20 : Nat) : Int) 0).toNat = cRc mi 1 (cTr B (p / 20)) from rfl]
  by_cases q : cRw mi B p
  · obtain ⟨v1, v2, v3, v4, v5, v6⟩ := cW_val hS hp q
    have q' : ((p % 20 : Nat) : Int) < cRc mi 1 (cTr B (p / 20)) := q
    have hv := cVl_in hS hp q
    rw [if_pos q, b44_19, mm_wi (z := kOf B ((p / 20 : Nat) : Int) 0 * 20) (by omega) (by omega), mm_wi (z := kOf B ((p / 20 : Nat) : Int) 0 * 20 + ((p % 20 : Nat) : Int)) (by omega) (by omega), sp41 hS (by omega) (by omega), mm_psh_i, b44_32]
    have e3 : kOf B ((p / 20 : Nat) : Int) 0 * 20 + ((p % 20 : Nat) : Int) = 20 * ((cTr B (p / 20) : Nat) : Int) + ((p % 20 : Nat) : Int) := by omega
    rw [e3, sp40 e2 (by omega) (by omega), mm_psh_i, b44_35, ← v3]
    by_cases q2 : gVal B (cEr mi B p) = -1
    · rw [if_pos q2, if_neg (fun z => z.2 q2), b44_43, b44_58]
    · rw [if_neg q2, if_pos ⟨q, q2⟩, b44_47, sp41 hS (by omega) (by omega), mm_psh_i, b44_53, sp89 (by omega) (by omega), mm_psh_i, b44_58]
      rw [show gPar B (cEr mi B p) = 100 * kOf B ((cEr mi B p / 100 : Nat) : Int) 1 + gVal B (cEr mi B p) from rfl, v4]
  · rw [if_neg q, if_neg (fun z => q z.1), b44_17]
end CX
