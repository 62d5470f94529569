-- THE REFERENCE'S READER OF THE SCRIPT, second half
def pFr (mi m1 : mm_M) (a : Int) : Prop := (∀ b, b ≠ 69 → m1 b = mi b) ∧ (∀ k, ¬ (5 ≤ k ∧ k ≤ 11) → m1 69 k = mi 69 k) ∧ m1 69 5 = a
theorem pFr.rf {mi : mm_M} : pFr mi mi (mi 69 5) := ⟨fun _ _ => rfl, fun _ _ => rfl, rfl⟩
theorem pFr.up {mi m1 : mm_M} {a v : Int} {k : Nat} (h : pFr mi m1 a) (hk : 6 ≤ k ∧ k ≤ 11) : pFr mi (mm_up m1 69 k v) a := ⟨fun b hb => by rw [mm_up_ne hb, h.1 b hb], fun j hj => by rw [mm_up_at2 (by omega), h.2.1 j hj], by rw [mm_up_at2 (by omega), h.2.2]⟩
theorem pFr.go {mi m1 : mm_M} {a v : Int} (h : pFr mi m1 a) : pFr mi (mm_up m1 69 5 v) v := ⟨fun b hb => by rw [mm_up_ne hb, h.1 b hb], fun j hj => by rw [mm_up_at2 (by omega), h.2.1 j hj], mm_up_at⟩
section SL
variable {X : Nat × (Nat → Int)} {mi m1 : mm_M} {h : mm_H} {Q : Option mm_V → mm_S → Prop} {a : Int}
theorem pFr.ok (hF : pFr mi m1 a) (ha : 0 ≤ a ∧ a ≤ mi 69 4) (h60 : mi 69 4 ≤ 60) : pOk m1 := by
  unfold pOk
  rw [hF.2.2, hF.2.1 4 (by omega)]
  omega
theorem sp125r (hF : pFr mi m1 a) (ha : 0 ≤ a ∧ a ≤ mi 69 4) (h60 : mi 69 4 ≤ 60) {c : Int} (hy : pHit (mi 71) (mi 69 4) a c c → Q (some (.inl 1)) (mm_ms0 (mm_up m1 69 5 (a + 1)) h)) (hn : ¬ pHit (mi 71) (mi 69 4) a c c → Q (some (.inl 0)) (mm_ms0 m1 h)) : mcl X 125 [.inr (some 69), .inl c] (mm_ms0 m1 h) Q := by
  have e1 := hF.1 71 (by decide)
  have e2 := hF.2.1 4 (by omega)
  have e3 := hF.2.2
  refine sp125 (hF.ok ha h60) ?_ ?_
  · rw [e1, e2, e3]; exact hy
  · rw [e1, e2, e3]; exact hn
theorem sp126r (hF : pFr mi m1 a) (ha : 0 ≤ a ∧ a ≤ mi 69 4) (h60 : mi 69 4 ≤ 60) {m : Int} (hm : 0 ≤ m ∧ m ≤ 9) (hy : pHit (mi 71) (mi 69 4) a 48 (48 + m) → Q (some (.inl (mi 71 a.toNat - 48))) (mm_ms0 (mm_up m1 69 5 (a + 1)) h)) (hn : ¬ pHit (mi 71) (mi 69 4) a 48 (48 + m) → Q (some (.inl (-1))) (mm_ms0 m1 h)) : mcl X 126 [.inr (some 69), .inl m] (mm_ms0 m1 h) Q := by
  have e1 := hF.1 71 (by decide)
  have e2 := hF.2.1 4 (by omega)
  have e3 := hF.2.2
  refine sp126 (hF.ok ha h60) hm ?_ ?_
  · rw [e1, e2, e3]; exact hy
  · rw [e1, e2, e3]; exact hn
theorem sp127r (hF : pFr mi m1 a) (ha : 0 ≤ a ∧ a ≤ mi 69 4) (h60 : mi 69 4 ≤ 60) (hq : Q (some (.inl ((pKey (mi 71) (mi 69 4) a).1.getD (-1)))) (mm_ms0 (mm_up m1 69 5 (pKey (mi 71) (mi 69 4) a).2) h)) : mcl X 127 [.inr (some 69)] (mm_ms0 m1 h) Q := by
  have e1 := hF.1 71 (by decide)
  have e2 := hF.2.1 4 (by omega)
  have e3 := hF.2.2
  refine sp127 (hF.ok ha h60) ?_
  rw [e1, e2, e3]; exact hq
theorem sp128r (hF : pFr mi m1 a) (ha : 0 ≤ a ∧ a ≤ mi 69 4) (h60 : mi 69 4 ≤ 60) (hq : Q (some (.inl ((pVal (mi 71) (mi 69 4) a).1.getD (-2)))) (mm_ms0 (mm_up m1 69 5 (pVal (mi 71) (mi 69 4) a).2) h)) : mcl X 128 [.inr (some 69)] (mm_ms0 m1 h) Q := by
  have e1 := hF.1 71 (by decide)
  have e2 := hF.2.1 4 (by omega)
  have e3 := hF.2.2
  refine sp128 (hF.ok ha h60) ?_
  rw [e1, e2, e3]; exact hq
/-- the table, the key and the kind keep their places -/
def pSm (m1 m2 : mm_M) : Prop := m2 69 6 = m1 69 6 ∧ m2 69 7 = m1 69 7 ∧ m2 69 8 = m1 69 8
theorem pSm.rf {m1 : mm_M} : pSm m1 m1 := ⟨rfl, rfl, rfl⟩
theorem pSm.up {m1 m2 : mm_M} {k : Nat} {v : Int} (h : pSm m1 m2) (hk : k = 5 ∨ 9 ≤ k) : pSm m1 (mm_up m2 69 k v) := ⟨by rw [mm_up_at2 (by omega)]; exact h.1, by rw [mm_up_at2 (by omega)]; exact h.2.1, by rw [mm_up_at2 (by omega)]; exact h.2.2⟩
theorem sp129 (hF : pFr mi m1 a) (ha : 0 ≤ a ∧ a ≤ mi 69 4) (h60 : mi 69 4 ≤ 60) (hn : (pIns (mi 71) (mi 69 4) a).1 = none → ∀ m2, pFr mi m2 (pIns (mi 71) (mi 69 4) a).2 → Q (some (.inl 0)) (mm_ms0 m2 h))
    (hy : ∀ v0 v1, (pIns (mi 71) (mi 69 4) a).1 = some (v0, v1) → ∀ m2, pFr mi m2 (pIns (mi 71) (mi 69 4) a).2 → pSm m1 m2 → m2 69 10 = v0 → m2 69 11 = v1 → Q (some (.inl 1)) (mm_ms0 m2 h)) : mcl X 129 [.inr (some 69)] (mm_ms0 m1 h) Q := by
  rw [c129, b129_0]
  unfold pIns at hn hy
  have hF0 : pFr mi (mm_up (mm_up m1 69 10 (-1)) 69 11 (-1)) a := (hF.up (by omega)).up (by omega)
  have hS0 : pSm m1 (mm_up (mm_up m1 69 10 (-1)) 69 11 (-1)) := (pSm.rf.up (by omega)).up (by omega)
  have e10 : mm_up (mm_up m1 69 10 (-1)) 69 11 (-1) 69 10 = -1 := by rw [mm_up_at2 (by decide), mm_up_at]
  have e11 : mm_up (mm_up m1 69 10 (-1)) 69 11 (-1) 69 11 = -1 := mm_up_at
  generalize mm_up (mm_up m1 69 10 (-1)) 69 11 (-1) = m0 at hF0 hS0 e10 e11 ⊢
  -- the end
  have fin : ∀ (m2 : mm_M) (v0 v1 : Int), m2 69 10 = v0 → m2 69 11 = v1 → ((-2 < v0 ∧ -2 < v1) → Q (some (.inl 1)) (mm_ms0 m2 h)) → (¬ (-2 < v0 ∧ -2 < v1) → Q (some (.inl 0)) (mm_ms0 m2 h)) → mwp X 129 53 [some (.inr (some 69))] [] (mm_ms0 m2 h) Q := by
    intro m2 v0 v1 f0 f1 g1 g2
    rw [b129_53, f0]
    by_cases q : -2 < v0
    · rw [if_pos q, b129_62, f1]
      by_cases q2 : -2 < v1
      · rw [if_pos q2, b129_71, b129_76]
        exact ⟨Or.inr rfl, g1 ⟨q, q2⟩⟩
      · rw [if_neg q2, b129_75, b129_76]
        exact ⟨Or.inl rfl, g2 (fun z => q2 z.2)⟩
    · rw [if_neg q, b129_75, b129_76]
      exact ⟨Or.inl rfl, g2 (fun z => q z.1)⟩
  refine sp125r hF0 ha h60 ?_ ?_
  · intro q1
    rw [if_pos q1] at hn hy
    rw [mm_psh_i, b129_16, if_neg (by omega), b129_19]
    have hF1 : pFr mi (mm_up m0 69 5 (a + 1)) (a + 1) := hF0.go
    have hS1 : pSm m1 (mm_up m0 69 5 (a + 1)) := hS0.up (by omega)
    have f11 : mm_up m0 69 5 (a + 1) 69 11 = -1 := by rw [mm_up_at2 (by decide)]; exact e11
    generalize mm_up m0 69 5 (a + 1) = m3 at hF1 hS1 f11 ⊢
    refine sp128r hF1 (by omega) h60 ?_
    obtain ⟨p1, p2, p3⟩ := pVal_in (tx := mi 71) (n := mi 69 4) (a := a + 1) (by omega)
    rw [mm_psh_i, b129_24]
    cases hv : pVal (mi 71) (mi 69 4) (a + 1) with
    | mk o a2 =>
      rw [hv] at hn hy p1 p2 p3
      have hF2 : pFr mi (mm_up m3 69 5 a2) a2 := hF1.go
      have hS2 : pSm m1 (mm_up m3 69 5 a2) := hS1.up (by omega)
      have g11 : mm_up m3 69 5 a2 69 11 = -1 := by rw [mm_up_at2 (by decide)]; exact f11
      dsimp only
      generalize mm_up m3 69 5 a2 = m4 at hF2 hS2 g11 ⊢
      cases o with
      | none =>
        dsimp only [Option.getD] at hn hy ⊢
        rw [if_neg (by omega)]
        refine fin _ (-2) (-1) mm_up_at (by rw [mm_up_at2 (by decide)]; exact g11) (fun z => by omega) (fun _ => ?_)
        exact hn rfl _ (hF2.up (by omega))
      | some v0 =>
        have r0 := p3 v0 rfl
        dsimp only [Option.getD] at hn hy p1 p2 ⊢
        rw [if_pos (by omega), b129_36]
        have hF3 : pFr mi (mm_up m4 69 10 v0) a2 := hF2.up (by omega)
        have hS3 : pSm m1 (mm_up m4 69 10 v0) := hS2.up (by omega)
        have k10 : mm_up m4 69 10 v0 69 10 = v0 := mm_up_at
        have k11 : mm_up m4 69 10 v0 69 11 = -1 := by rw [mm_up_at2 (by decide)]; exact g11
        generalize mm_up m4 69 10 v0 = m5 at hF3 hS3 k10 k11 ⊢
        refine sp125r hF3 (by omega) h60 ?_ ?_
        · intro q2
          rw [if_pos q2] at hn hy
          rw [mm_psh_i, b129_42, if_neg (by omega), b129_45]
          have hF4 : pFr mi (mm_up m5 69 5 (a2 + 1)) (a2 + 1) := hF3.go
          have hS4 : pSm m1 (mm_up m5 69 5 (a2 + 1)) := hS3.up (by omega)
          have l10 : mm_up m5 69 5 (a2 + 1) 69 10 = v0 := by rw [mm_up_at2 (by decide)]; exact k10
          generalize mm_up m5 69 5 (a2 + 1) = m6 at hF4 hS4 l10 ⊢
          refine sp128r hF4 (by omega) h60 ?_
          obtain ⟨p4, p5, p6⟩ := pVal_in (tx := mi 71) (n := mi 69 4) (a := a2 + 1) (by omega)
          rw [mm_psh_i, b129_50]
          cases hv2 : pVal (mi 71) (mi 69 4) (a2 + 1) with
          | mk o2 a3 =>
            rw [hv2] at hn hy p6
            have hF5 : pFr mi (mm_up m6 69 5 a3) a3 := hF4.go
            have hS5 : pSm m1 (mm_up m6 69 5 a3) := hS4.up (by omega)
            have t10 : mm_up m6 69 5 a3 69 10 = v0 := by rw [mm_up_at2 (by decide)]; exact l10
            dsimp only
            generalize mm_up m6 69 5 a3 = m7 at hF5 hS5 t10 ⊢
            cases o2 with
            | none =>
              dsimp only [Option.getD] at hn hy ⊢
              refine fin _ v0 (-2) (by rw [mm_up_at2 (by decide)]; exact t10) mm_up_at (fun z => by omega) (fun _ => ?_)
              exact hn rfl _ (hF5.up (by omega))
            | some v1 =>
              have r1 := p6 v1 rfl
              dsimp only [Option.getD] at hn hy ⊢
              refine fin _ v0 v1 (by rw [mm_up_at2 (by decide)]; exact t10) mm_up_at (fun _ => ?_) (fun z => by omega)
              exact hy v0 v1 rfl _ (hF5.up (by omega)) (hS5.up (by omega)) (by rw [mm_up_at2 (by decide)]; exact t10) mm_up_at
        · intro q2
          rw [if_neg q2] at hn hy
          rw [mm_psh_i, b129_42, if_pos rfl]
          exact fin m5 v0 (-1) k10 k11 (fun _ => hy v0 (-1) rfl m5 hF3 hS3 k10 k11) (fun z => by omega)
  · intro q1
    rw [if_neg q1] at hn hy
    rw [mm_psh_i, b129_16, if_pos rfl]
    exact fin m0 (-1) (-1) e10 e11 (fun _ => hy (-1) (-1) rfl m0 hF0 hS0 e10 e11) (fun z => by omega)
end SL
