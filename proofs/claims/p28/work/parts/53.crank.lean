-- THE CLASS: the rows of a table stand by rising keys: ranks and counts
theorem inc_cnt {m : Nat} {f : Nat → Int} {p : Nat → Bool} (h0 : ∀ j, j < m → 0 ≤ f j) (hs : ∀ i j, i < j → j < m → f i < f j) (hp : ∀ k : Nat, k < 100 → (p k = true ↔ ∃ j, j < m ∧ f j = k)) : ∀ n : Nat, n ≤ 100 → ∃ r : Nat, r ≤ m ∧ cnt n p = r ∧ ∀ j, j < m → (f j < n ↔ j < r) := by
  intro n
  induction n with
  | zero =>
    intro _
    refine ⟨0, Nat.zero_le _, rfl, fun j hj => ?_⟩
    have := h0 j hj
    omega
  | succ n ih =>
    intro hn
    obtain ⟨r, h1, h2, h3⟩ := ih (by omega)
    rw [cnt_succ, h2]
    by_cases q : p n = true
    · obtain ⟨j, hj, ej⟩ := (hp n (by omega)).mp q
      have g1 := h3 j hj
      have e : j = r := by
        rcases Nat.lt_trichotomy j r with h | h | h
        · have := g1.mpr h; omega
        · exact h
        · have := hs r j h hj
          have := (h3 r (by omega)).mp (by omega)
          omega
      subst e
      refine ⟨j + 1, by omega, by rw [if_pos q]; omega, fun i hi => ?_⟩
      have := h3 i hi
      rcases Nat.lt_trichotomy i j with h | h | h
      · omega
      · subst h; omega
      · have := hs j i h hi
        omega
    · refine ⟨r, h1, by rw [if_neg q]; omega, fun i hi => ?_⟩
      have := h3 i hi
      have : f i ≠ n := fun z => q ((hp n (by omega)).mpr ⟨i, hi, z⟩)
      omega
section CV
variable {X : Nat × (Nat → Int)} {mi : mm_M} {h : mm_H} {Q : Option mm_V → mm_S → Prop} {B : Int → Int}
theorem cTb.inc {a t : Nat} (hT : cTb mi a B t) : ∀ n : Nat, n ≤ 100 → ∃ r : Nat, (r : Int) ≤ cRc mi a t ∧ cnt n (fun k => decide (0 ≤ kCe B (100 * t + k))) = r ∧ ∀ j : Nat, (j : Int) < cRc mi a t → (cKy mi a t j < n ↔ j < r) := by
  obtain ⟨hrc, hz, hrow, hso, hco⟩ := hT
  intro n hn
  obtain ⟨r, h1, h2, h3⟩ := inc_cnt (m := (cRc mi a t).toNat) (f := cKy mi a t) (p := fun k => decide (0 ≤ kCe B (100 * t + k))) (fun j hj => (hrow j (by omega)).1.1) (fun i j hi hj => hso i j hi (by omega)) (fun k hk => by
    rw [decide_eq_true_eq]
    constructor
    · intro hc
      obtain ⟨j, hj, ej⟩ := hco k hk hc
      exact ⟨j, by omega, ej⟩
    · rintro ⟨j, hj, ej⟩
      obtain ⟨r1, r2, r3, r4⟩ := hrow j (by omega)
      rw [ej] at r2
      omega) n hn
  exact ⟨r, by omega, h2, fun j hj => h3 j (by omega)⟩
/-- as many rows as the block counts -/
theorem cTb.rows {a t : Nat} (hT : cTb mi a B t) : kRows B t = cRc mi a t := by
  obtain ⟨r, h1, h2, h3⟩ := hT.inc 100 (Nat.le_refl _)
  have hk := hT.2.2.1
  have h0 := hT.1.1
  show cnt 100 _ = _
  rw [h2]
  by_cases q : (r : Int) = cRc mi a t
  · exact q
  · have := (h3 r (by omega)).mp (by have := (hk r (by omega)).1.2; omega)
    omega
theorem cRows (hS : cS mi 1 B) {t : Int} (ht : 0 ≤ t ∧ t < 6) : kRows B t = cRc mi 1 t.toNat := by
  have := (hS.2.2.2.2 t.toNat (by omega)).rows
  rw [show ((t.toNat : Nat) : Int) = t by omega] at this
  exact this
/-- the rank of a key -/
theorem cRank (hS : cS mi 1 B) {t j : Nat} (ht : (t : Int) < B 0) (hj : (j : Int) < cRc mi 1 t) : kRank B t (cKy mi 1 t j).toNat = j := by
  have w0 := hS.1.1.1
  have hT := hS.2.2.2.2 t (by omega)
  obtain ⟨r1, r2, r3, r4⟩ := hT.2.2.1 j hj
  obtain ⟨r, h1, h2, h3⟩ := hT.inc (cKy mi 1 t j).toNat (by omega)
  unfold kRank
  rw [cnt_co (q := fun k => decide (0 ≤ kCe B (100 * t + k))) (fun k hk => by
    apply Bool.eq_iff_iff.mpr
    rw [decide_eq_true_eq, decide_eq_true_eq]
    exact ⟨fun z => z.2.2, fun z => ⟨by omega, by omega, z⟩⟩), h2]
  have g := h3 j hj
  have : ¬ j < r := fun z => by have := g.mpr z; omega
  by_cases q : r = j
  · rw [q]
  · have e1 := h3 r (by omega)
    have e2 := hT.2.2.2.1 r j (by omega) hj
    have := e1.mp (by omega)
    omega
end CV
