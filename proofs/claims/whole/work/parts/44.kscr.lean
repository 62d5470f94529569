-- THE SCRIPT, read by a pure reader: tx the characters, n how many, a the place
abbrev pHit (tx : Nat → Int) (n a lo hi : Int) : Prop := a < n ∧ lo ≤ tx a.toNat ∧ tx a.toNat ≤ hi
def pKey (tx : Nat → Int) (n a : Int) : Option Int × Int :=
  if pHit tx n a 48 57 then (if tx a.toNat - 48 = 0 then (some 0, a + 1) else if pHit tx n (a + 1) 48 57 then (some (10 * (tx a.toNat - 48) + (tx (a + 1).toNat - 48)), a + 2) else (some (tx a.toNat - 48), a + 1)) else (none, a)
def pVal (tx : Nat → Int) (n a : Int) : Option Int × Int := if pHit tx n a 110 110 then (some (-1), a + 1) else pKey tx n a
def pRow (tx : Nat → Int) (n a : Int) : Option (Int × Int) × Int :=
  if pHit tx n a 48 53 then (if pHit tx n (a + 1) 58 58 then (match pKey tx n (a + 2) with
    | (some k, a2) => (some (tx a.toNat - 48, k), a2)
    | (none, a2) => (none, a2)) else (none, a + 1)) else (none, a)
def pIns (tx : Nat → Int) (n a : Int) : Option (Int × Int) × Int :=
  if pHit tx n a 61 61 then (match pVal tx n (a + 1) with
    | (some v0, a2) => if pHit tx n a2 44 44 then (match pVal tx n (a2 + 1) with
      | (some v1, a3) => (some (v0, v1), a3)
      | (none, a3) => (none, a3)) else (some (v0, -1), a2)
    | (none, a2) => (none, a2)) else (some (-1, -1), a)
def pCell (tx : Nat → Int) (n a : Int) : Option (Int × Int) × Int :=
  if pHit tx n a 46 46 then (if pHit tx n (a + 1) 48 49 then (if pHit tx n (a + 2) 61 61 then (match pVal tx n (a + 3) with
    | (some v, a2) => (some (tx (a + 1).toNat - 48, v), a2)
    | (none, a2) => (none, a2)) else (none, a + 2)) else (none, a + 1)) else (none, a)
/-- kind, table, key and two more numbers -/
abbrev pS : Type := Int × Int × Int × Int × Int
def pTail (tx : Nat → Int) (n : Int) (kind : Int) (t k a : Int) : Option pS × Int :=
  if kind = 0 then (match pIns tx n a with
    | (some (v0, v1), a2) => (some (0, t, k, v0, v1), a2)
    | (none, a2) => (none, a2))
  else if kind = 1 then (some (1, t, k, 0, 0), a)
  else (match pCell tx n a with
    | (some (c, v), a2) => (some (2, t, k, c, v), a2)
    | (none, a2) => (none, a2))
def pBody (tx : Nat → Int) (n : Int) (kind : Int) (a : Int) : Option pS × Int := match pRow tx n a with
  | (some (t, k), a2) => pTail tx n kind t k a2
  | (none, a2) => (none, a2)
def pSt (tx : Nat → Int) (n a : Int) : Option pS × Int :=
  if pHit tx n a 43 43 then pBody tx n 0 (a + 1) else if pHit tx n a 45 45 then pBody tx n 1 (a + 1) else if pHit tx n a 64 64 then pBody tx n 2 (a + 1) else (none, a)
theorem pKey_in {tx : Nat → Int} {n a : Int} (h : a ≤ n) : a ≤ (pKey tx n a).2 ∧ (pKey tx n a).2 ≤ n ∧ ∀ v, (pKey tx n a).1 = some v → 0 ≤ v ∧ v ≤ 99 := by
  unfold pKey
  split
  · rename_i q1
    split
    · exact ⟨by show a ≤ a + 1; omega, by show a + 1 ≤ n; omega, fun v hv => by cases hv; omega⟩
    · split
      · exact ⟨by show a ≤ a + 2; omega, by show a + 2 ≤ n; omega, fun v hv => by cases hv; omega⟩
      · exact ⟨by show a ≤ a + 1; omega, by show a + 1 ≤ n; omega, fun v hv => by cases hv; omega⟩
  · exact ⟨Int.le_refl _, h, fun v hv => by cases hv⟩
theorem pVal_in {tx : Nat → Int} {n a : Int} (h : a ≤ n) : a ≤ (pVal tx n a).2 ∧ (pVal tx n a).2 ≤ n ∧ ∀ v, (pVal tx n a).1 = some v → -1 ≤ v ∧ v ≤ 99 := by
  unfold pVal
  split
  · exact ⟨by show a ≤ a + 1; omega, by show a + 1 ≤ n; omega, fun v hv => by cases hv; omega⟩
  · obtain ⟨h1, h2, h3⟩ := pKey_in (tx := tx) h
    exact ⟨h1, h2, fun v hv => by have := h3 v hv; omega⟩
theorem mm_up_up {mi : mm_M} {a k : Nat} {v w : Int} : mm_up (mm_up mi a k v) a k w = mm_up mi a k w := by
  funext b j
  by_cases hb : b = a
  · subst hb
    rw [mm_up_if, mm_up_if, mm_up_if]
    split <;> rfl
  · rw [mm_up_ne hb, mm_up_ne hb, mm_up_ne hb]
theorem mm_up_self {mi : mm_M} {a k : Nat} : mm_up mi a k (mi a k) = mi := by
  funext b j
  by_cases hb : b = a
  · subst hb
    rw [mm_up_if]
    split
    · rename_i q; rw [q]
    · rfl
  · rw [mm_up_ne hb]
section SK
variable {X : Nat × (Nat → Int)} {mi : mm_M} {h : mm_H} {Q : Option mm_V → mm_S → Prop}
/-- the reference's place in a text of at most sixty -/
def pOk (mi : mm_M) : Prop := (0 ≤ mi 69 5 ∧ mi 69 5 ≤ mi 69 4) ∧ mi 69 4 ≤ 60
theorem pOk.up {mi : mm_M} (hp : pOk mi) {v : Int} (hv : mi 69 5 ≤ v ∧ v ≤ mi 69 4) : pOk (mm_up mi 69 5 v) := by
  unfold pOk at *
  rw [mm_up_at, mm_up_at2 (by decide)]
  omega
theorem sp124 (hp : pOk mi) {lo hi : Int} : mcl X 124 [.inr (some 69), .inl lo, .inl hi] (mm_ms0 mi h) Q = Q (some (.inl (if pHit (mi 71) (mi 69 4) (mi 69 5) lo hi then 1 else 0))) (mm_ms0 mi h) := by
  obtain ⟨h1, h2⟩ := hp
  rw [c124, b124_0]
  by_cases q1 : mi 69 5 < mi 69 4
  · rw [if_pos q1, b124_11, mm_andT (by omega), b124_20, sp91, mm_psh_i, b124_25, mm_ite0]
    by_cases q2 : lo ≤ mi 71 (mi 69 5).toNat ∧ mi 71 (mi 69 5).toNat ≤ hi
    · rw [if_pos q2, b124_28, b124_33, if_pos ⟨q1, q2⟩]
      exact mm_andT (Or.inr rfl)
    · rw [if_neg q2, b124_32, b124_33, if_neg (fun z => q2 z.2)]
      exact mm_andT (Or.inl rfl)
  · rw [if_neg q1, b124_32, b124_33, if_neg (fun z => q1 z.1)]
    exact mm_andT (Or.inl rfl)
theorem sp125 (hp : pOk mi) {c : Int} (hy : pHit (mi 71) (mi 69 4) (mi 69 5) c c → Q (some (.inl 1)) (mm_ms0 (mm_up mi 69 5 (mi 69 5 + 1)) h)) (hn : ¬ pHit (mi 71) (mi 69 4) (mi 69 5) c c → Q (some (.inl 0)) (mm_ms0 mi h)) : mcl X 125 [.inr (some 69), .inl c] (mm_ms0 mi h) Q := by
  rw [c125, b125_0, sp124 hp, mm_psh_i, b125_6, mm_ite0]
  obtain ⟨h1, h2⟩ := hp
  by_cases q1 : pHit (mi 71) (mi 69 4) (mi 69 5) c c
  · rw [if_pos q1, if_pos q1, b125_16, b125_21, mm_wi (z := mi 69 5 + 1) (by omega) (by omega)]
    exact ⟨Or.inr rfl, hy q1⟩
  · rw [if_neg q1, if_neg q1, b125_20, b125_21, mm_wi (z := mi 69 5 + 0) (by omega) (by omega), Int.add_zero, mm_up_self]
    exact ⟨Or.inl rfl, hn q1⟩
theorem sp126 (hp : pOk mi) {m : Int} (hm : 0 ≤ m ∧ m ≤ 9) (hy : pHit (mi 71) (mi 69 4) (mi 69 5) 48 (48 + m) → Q (some (.inl (mi 71 (mi 69 5).toNat - 48))) (mm_ms0 (mm_up mi 69 5 (mi 69 5 + 1)) h)) (hn : ¬ pHit (mi 71) (mi 69 4) (mi 69 5) 48 (48 + m) → Q (some (.inl (-1))) (mm_ms0 mi h)) : mcl X 126 [.inr (some 69), .inl m] (mm_ms0 mi h) Q := by
  rw [c126, b126_0, mm_wi (z := 48 + m) (by omega) (by omega), sp124 hp, mm_psh_i, b126_10, mm_ite0]
  obtain ⟨h1, h2⟩ := hp
  by_cases q1 : pHit (mi 71) (mi 69 4) (mi 69 5) 48 (48 + m)
  · rw [if_pos q1, if_pos q1, b126_20, b126_25, mm_wi (z := mi 69 5 + 1) (by omega) (by omega), if_neg (by omega), b126_33, mm_up_at, mm_wi (z := mi 69 5 + 1 - 1) (by omega) (by omega)]
    refine ⟨by omega, ?_⟩
    rw [b126_44, b126_51, mm_up_ne (by decide), show mi 69 5 + 1 - 1 = mi 69 5 by omega, mm_wi (by omega) (by omega)]
    exact hy q1
  · rw [if_neg q1, if_neg q1, b126_24, b126_25, mm_wi (z := mi 69 5 + 0) (by omega) (by omega), Int.add_zero, mm_up_self, if_pos rfl, b126_50, b126_51]
    exact hn q1
theorem sp127 (hp : pOk mi) (hq : Q (some (.inl ((pKey (mi 71) (mi 69 4) (mi 69 5)).1.getD (-1)))) (mm_ms0 (mm_up mi 69 5 (pKey (mi 71) (mi 69 4) (mi 69 5)).2) h)) : mcl X 127 [.inr (some 69)] (mm_ms0 mi h) Q := by
  rw [c127, b127_0]
  unfold pKey at hq
  refine sp126 hp (by omega) ?_ ?_
  · intro q1
    have q1 : pHit (mi 71) (mi 69 4) (mi 69 5) 48 57 := q1
    rw [if_pos q1] at hq
    rw [mm_psh_i, b127_6]
    by_cases q2 : mi 71 (mi 69 5).toNat - 48 = 0
    · rw [if_pos q2] at hq
      rw [if_neg (by omega), b127_20, b127_21, if_pos (by omega), b127_26, b127_36, q2]
      exact hq
    · rw [if_neg q2] at hq
      have hp2 : pOk (mm_up mi 69 5 (mi 69 5 + 1)) := hp.up (by omega)
      rw [if_pos (by omega), b127_11]
      refine sp126 hp2 (by omega) ?_ ?_
      · intro q3
        rw [mm_up_at, mm_up_at2 (by decide), mm_up_ne (by decide)] at q3
        have q3 : pHit (mi 71) (mi 69 4) (mi 69 5 + 1) 48 57 := q3
        rw [if_pos q3] at hq
        rw [mm_psh_i, b127_17, b127_21, mm_up_at, mm_up_ne (by decide), mm_up_up, if_neg (by omega), b127_30, mm_wi (z := 10 * (mi 71 (mi 69 5).toNat - 48)) (by omega) (by omega), mm_wi (by omega) (by omega), b127_36, Int.add_assoc]
        exact hq
      · intro q3
        rw [mm_up_at, mm_up_at2 (by decide), mm_up_ne (by decide)] at q3
        have q3 : ¬ pHit (mi 71) (mi 69 4) (mi 69 5 + 1) 48 57 := q3
        rw [if_neg q3] at hq
        rw [mm_psh_i, b127_17, b127_21, if_pos (by omega), b127_26, b127_36]
        exact hq
  · intro q1
    have q1 : ¬ pHit (mi 71) (mi 69 4) (mi 69 5) 48 57 := q1
    rw [if_neg q1] at hq
    rw [mm_psh_i, b127_6, if_neg (by omega), b127_20, b127_21, if_pos (by omega), b127_26, b127_36]
    dsimp only at hq
    rw [mm_up_self] at hq
    exact hq
theorem sp128 (hp : pOk mi) (hq : Q (some (.inl ((pVal (mi 71) (mi 69 4) (mi 69 5)).1.getD (-2)))) (mm_ms0 (mm_up mi 69 5 (pVal (mi 71) (mi 69 4) (mi 69 5)).2) h)) : mcl X 128 [.inr (some 69)] (mm_ms0 mi h) Q := by
  rw [c128, b128_0]
  unfold pVal at hq
  refine sp125 hp ?_ ?_
  · intro q1
    rw [if_pos q1] at hq
    rw [mm_psh_i, b128_6, if_neg (by omega), b128_9]
    exact hq
  · intro q1
    rw [if_neg q1] at hq
    rw [mm_psh_i, b128_6, if_pos rfl, b128_11]
    refine sp127 hp ?_
    have h3 := (pKey_in (tx := mi 71) hp.1.2).2.2
    rw [mm_psh_i, b128_15]
    cases hk : (pKey (mi 71) (mi 69 4) (mi 69 5)).1 with
    | none =>
      rw [hk] at hq
      rw [if_pos (by show (-1 : Int) < 0; decide), b128_20, b128_26]
      exact hq
    | some v =>
      rw [hk] at hq
      have := h3 v hk
      rw [if_neg (by show ¬ v < 0; omega), b128_25, b128_26]
      exact hq
end SK
