-- THE REFERENCE'S READER OF THE SCRIPT: a change's place, a whole statement
section SM
variable {X : Nat × (Nat → Int)} {mi m1 : mm_M} {h : mm_H} {Q : Option mm_V → mm_S → Prop} {a : Int}
theorem sp130 (hF : pFr mi m1 a) (ha : 0 ≤ a ∧ a ≤ mi 69 4) (h60 : mi 69 4 ≤ 60) (hn : (pCell (mi 71) (mi 69 4) a).1 = none → ∀ m2, pFr mi m2 (pCell (mi 71) (mi 69 4) a).2 → Q (some (.inl 0)) (mm_ms0 m2 h))
    (hy : ∀ c v, (pCell (mi 71) (mi 69 4) a).1 = some (c, v) → ∀ m2, pFr mi m2 (pCell (mi 71) (mi 69 4) a).2 → pSm m1 m2 → m2 69 9 = c → m2 69 10 = v → Q (some (.inl 1)) (mm_ms0 m2 h)) : mcl X 130 [.inr (some 69)] (mm_ms0 m1 h) Q := by
  rw [c130, b130_0]
  unfold pCell at hn hy
  -- a bad ending
  have bad : ∀ (m2 : mm_M) (a2 : Int), pFr mi m2 a2 → (∀ m3, pFr mi m3 a2 → Q (some (.inl 0)) (mm_ms0 m3 h)) → mwp X 130 46 [some (.inr (some 69))] [.inr (some 69)] (mm_ms0 m2 h) Q := by
    intro m2 a2 hF2 g
    rw [b130_46, b130_48, if_neg (by omega), b130_64, b130_65]
    exact ⟨Or.inl rfl, g _ (hF2.up (by omega))⟩
  refine sp125r hF ha h60 ?_ ?_
  · intro q1
    rw [if_pos q1] at hn hy
    rw [mm_psh_i, b130_7, if_neg (by omega), b130_10]
    have hF1 : pFr mi (mm_up m1 69 5 (a + 1)) (a + 1) := hF.go
    have hS1 : pSm m1 (mm_up m1 69 5 (a + 1)) := pSm.rf.up (by omega)
    generalize mm_up m1 69 5 (a + 1) = m3 at hF1 hS1 ⊢
    refine sp126r hF1 (by omega) h60 (by omega) ?_ ?_
    · intro q2
      have q2 : pHit (mi 71) (mi 69 4) (a + 1) 48 49 := q2
      rw [if_pos q2] at hn hy
      rw [mm_psh_i, b130_15, b130_19, if_neg (by omega), b130_30]
      have hF2 : pFr mi (mm_up (mm_up m3 69 5 (a + 1 + 1)) 69 9 (mi 71 (a + 1).toNat - 48)) (a + 2) := by
        have := (hF1.go (v := a + 1 + 1)).up (k := 9) (v := mi 71 (a + 1).toNat - 48) (by omega)
        rw [show a + 1 + 1 = a + 2 by omega] at this ⊢
        exact this
      have hS2 : pSm m1 (mm_up (mm_up m3 69 5 (a + 1 + 1)) 69 9 (mi 71 (a + 1).toNat - 48)) := (hS1.up (by omega)).up (by omega)
      have k9 : mm_up (mm_up m3 69 5 (a + 1 + 1)) 69 9 (mi 71 (a + 1).toNat - 48) 69 9 = mi 71 (a + 1).toNat - 48 := mm_up_at
      generalize mm_up (mm_up m3 69 5 (a + 1 + 1)) 69 9 (mi 71 (a + 1).toNat - 48) = m4 at hF2 hS2 k9 ⊢
      refine sp125r hF2 (by omega) h60 ?_ ?_
      · intro q3
        rw [if_pos q3] at hn hy
        rw [mm_psh_i, b130_36, if_neg (by omega), b130_39]
        have hF3 : pFr mi (mm_up m4 69 5 (a + 2 + 1)) (a + 3) := by
          have := hF2.go (v := a + 2 + 1)
          rw [show a + 2 + 1 = a + 3 by omega] at this ⊢
          exact this
        have hS3 : pSm m1 (mm_up m4 69 5 (a + 2 + 1)) := hS2.up (by omega)
        have l9 : mm_up m4 69 5 (a + 2 + 1) 69 9 = mi 71 (a + 1).toNat - 48 := by rw [mm_up_at2 (by decide)]; exact k9
        generalize mm_up m4 69 5 (a + 2 + 1) = m5 at hF3 hS3 l9 ⊢
        refine sp128r hF3 (by omega) h60 ?_
        obtain ⟨p1, p2, p3⟩ := pVal_in (tx := mi 71) (n := mi 69 4) (a := a + 3) (by omega)
        rw [mm_psh_i, b130_43, b130_48]
        cases hv : pVal (mi 71) (mi 69 4) (a + 3) with
        | mk o a2 =>
          rw [hv] at hn hy p3
          cases o with
          | none =>
            dsimp only [Option.getD] at hn hy ⊢
            rw [if_neg (by omega), b130_64, b130_65]
            exact ⟨Or.inl rfl, hn rfl _ (hF3.go.up (by omega))⟩
          | some v =>
            have r0 := p3 v rfl
            dsimp only [Option.getD] at hn hy ⊢
            rw [if_pos (by omega), b130_60, b130_65]
            exact ⟨Or.inr rfl, hy _ v rfl _ (hF3.go.up (by omega)) ((hS3.up (by omega)).up (by omega)) (by rw [mm_up_at2 (by decide), mm_up_at2 (by decide)]; exact l9) mm_up_at⟩
      · intro q3
        rw [if_neg q3] at hn hy
        rw [mm_psh_i, b130_36, if_pos rfl]
        exact bad m4 (a + 2) hF2 (fun m6 g => hn rfl m6 g)
    · intro q2
      have q2 : ¬ pHit (mi 71) (mi 69 4) (a + 1) 48 49 := q2
      rw [if_neg q2] at hn hy
      rw [mm_psh_i, b130_15, b130_19, if_pos (by omega)]
      exact bad _ (a + 1) (hF1.up (by omega)) (fun m6 g => hn rfl m6 g)
  · intro q1
    rw [if_neg q1] at hn hy
    rw [mm_psh_i, b130_7, if_pos rfl, b130_18, b130_19, if_pos (by omega)]
    exact bad _ a (hF.up (by omega)) (fun m6 g => hn rfl m6 g)
/-- what a statement left in the reader's fields -/
def pGot (m2 : mm_M) (s : pS) : Prop := m2 69 6 = s.1 ∧ m2 69 7 = s.2.1 ∧ m2 69 8 = s.2.2.1 ∧ (s.1 = 0 → m2 69 10 = s.2.2.2.1 ∧ m2 69 11 = s.2.2.2.2) ∧ (s.1 = 2 → m2 69 9 = s.2.2.2.1 ∧ m2 69 10 = s.2.2.2.2) ∧ (s.1 = 0 ∨ s.1 = 1 ∨ s.1 = 2)
theorem pRow_in {tx : Nat → Int} {n a : Int} (h : a ≤ n) : a ≤ (pRow tx n a).2 ∧ (pRow tx n a).2 ≤ n ∧ ∀ t k, (pRow tx n a).1 = some (t, k) → (0 ≤ t ∧ t ≤ 5) ∧ 0 ≤ k ∧ k ≤ 99 := by
  unfold pRow
  split
  · rename_i q1
    split
    · rename_i q2
      obtain ⟨p1, p2, p3⟩ := pKey_in (tx := tx) (n := n) (a := a + 2) (by omega)
      cases hv : pKey tx n (a + 2) with
      | mk o a2 =>
        rw [hv] at p1 p2 p3
        cases o with
        | none => exact ⟨by show a ≤ a2; dsimp only at p1; omega, p2, fun t k hk => by cases hk⟩
        | some v =>
          have := p3 v rfl
          exact ⟨by show a ≤ a2; dsimp only at p1; omega, p2, fun t k hk => by cases hk; omega⟩
    · exact ⟨by show a ≤ a + 1; omega, by show a + 1 ≤ n; omega, fun t k hk => by cases hk⟩
  · exact ⟨Int.le_refl _, h, fun t k hk => by cases hk⟩
theorem sp131b (hF : pFr mi m1 a) (ha : 0 ≤ a ∧ a ≤ mi 69 4) (h60 : mi 69 4 ≤ 60) {kind : Int} (hk : kind = 0 ∨ kind = 1 ∨ kind = 2) (hn : (pBody (mi 71) (mi 69 4) kind a).1 = none → ∀ m2, pFr mi m2 (pBody (mi 71) (mi 69 4) kind a).2 → Q (some (.inl 0)) (mm_ms0 m2 h))
    (hy : ∀ s, (pBody (mi 71) (mi 69 4) kind a).1 = some s → ∀ m2, pFr mi m2 (pBody (mi 71) (mi 69 4) kind a).2 → pGot m2 s → Q (some (.inl 1)) (mm_ms0 m2 h)) : mwp X 131 41 [some (.inr (some 69))] [.inl kind, .inr (some 69)] (mm_ms0 m1 h) Q := by
  unfold pBody at hn hy
  rw [b131_41, if_neg (by omega), b131_56]
  have hF0 : pFr mi (mm_up m1 69 6 kind) a := hF.up (by omega)
  have e6 : mm_up m1 69 6 kind 69 6 = kind := mm_up_at
  generalize mm_up m1 69 6 kind = m3 at hF0 e6 ⊢
  have bad : ∀ (m2 : mm_M) (a2 : Int), pFr mi m2 a2 → (∀ m3, pFr mi m3 a2 → Q (some (.inl 0)) (mm_ms0 m3 h)) → mwp X 131 88 [some (.inr (some 69))] [.inr (some 69)] (mm_ms0 m2 h) Q := by
    intro m2 a2 hF2 g
    rw [b131_88, b131_89, if_pos (by omega), b131_135, b131_136]
    exact ⟨Or.inl rfl, g _ (hF2.up (by omega))⟩
  have no : ∀ m2, Q (some (.inl 0)) (mm_ms0 m2 h) → mwp X 131 135 [some (.inr (some 69))] [] (mm_ms0 m2 h) Q := by
    intro m2 g
    rw [b131_135, b131_136]
    exact ⟨Or.inl rfl, g⟩
  have yes : ∀ m2, Q (some (.inl 1)) (mm_ms0 m2 h) → mwp X 131 131 [some (.inr (some 69))] [] (mm_ms0 m2 h) Q := by
    intro m2 g
    rw [b131_131, b131_136]
    exact ⟨Or.inr rfl, g⟩
  unfold pRow at hn hy
  refine sp126r hF0 ha h60 (by omega) ?_ ?_
  · intro q1
    have q1 : pHit (mi 71) (mi 69 4) a 48 53 := q1
    rw [if_pos q1] at hn hy
    rw [mm_psh_i, b131_61, if_neg (by omega), b131_72]
    have hF1 : pFr mi (mm_up (mm_up m3 69 5 (a + 1)) 69 7 (mi 71 a.toNat - 48)) (a + 1) := hF0.go.up (by omega)
    have f6 : mm_up (mm_up m3 69 5 (a + 1)) 69 7 (mi 71 a.toNat - 48) 69 6 = kind := by rw [mm_up_at2 (by decide), mm_up_at2 (by decide)]; exact e6
    have f7 : mm_up (mm_up m3 69 5 (a + 1)) 69 7 (mi 71 a.toNat - 48) 69 7 = mi 71 a.toNat - 48 := mm_up_at
    generalize mm_up (mm_up m3 69 5 (a + 1)) 69 7 (mi 71 a.toNat - 48) = m4 at hF1 f6 f7 ⊢
    refine sp125r hF1 (by omega) h60 ?_ ?_
    · intro q2
      rw [if_pos q2] at hn hy
      rw [mm_psh_i, b131_78, if_neg (by omega), b131_81]
      have hF2 : pFr mi (mm_up m4 69 5 (a + 1 + 1)) (a + 2) := by
        have := hF1.go (v := a + 1 + 1)
        rw [show a + 1 + 1 = a + 2 by omega] at this ⊢
        exact this
      have g6 : mm_up m4 69 5 (a + 1 + 1) 69 6 = kind := by rw [mm_up_at2 (by decide)]; exact f6
      have g7 : mm_up m4 69 5 (a + 1 + 1) 69 7 = mi 71 a.toNat - 48 := by rw [mm_up_at2 (by decide)]; exact f7
      generalize mm_up m4 69 5 (a + 1 + 1) = m5 at hF2 g6 g7 ⊢
      refine sp127r hF2 (by omega) h60 ?_
      obtain ⟨p1, p2, p3⟩ := pKey_in (tx := mi 71) (n := mi 69 4) (a := a + 2) (by omega)
      rw [mm_psh_i, b131_85, b131_89]
      cases hv : pKey (mi 71) (mi 69 4) (a + 2) with
      | mk o a2 =>
        rw [hv] at hn hy p1 p2 p3
        cases o with
        | none =>
          dsimp only [Option.getD] at hn hy ⊢
          rw [if_pos (by omega)]
          exact no _ (hn rfl _ (hF2.go.up (by omega)))
        | some k =>
          have r0 := p3 k rfl
          dsimp only [Option.getD] at hn hy p1 p2 ⊢
          rw [if_neg (by omega), b131_99]
          have hF3 : pFr mi (mm_up (mm_up m5 69 5 a2) 69 8 k) a2 := hF2.go.up (by omega)
          have t6 : mm_up (mm_up m5 69 5 a2) 69 8 k 69 6 = kind := by rw [mm_up_at2 (by decide), mm_up_at2 (by decide)]; exact g6
          have t7 : mm_up (mm_up m5 69 5 a2) 69 8 k 69 7 = mi 71 a.toNat - 48 := by rw [mm_up_at2 (by decide), mm_up_at2 (by decide)]; exact g7
          have t8 : mm_up (mm_up m5 69 5 a2) 69 8 k 69 8 = k := mm_up_at
          generalize mm_up (mm_up m5 69 5 a2) 69 8 k = m6 at hF3 t6 t7 t8 ⊢
          unfold pTail at hn hy
          rw [t6]
          by_cases k1 : kind = 1
          · subst k1
            rw [if_pos rfl]
            refine yes _ (hy (1, mi 71 a.toNat - 48, k, 0, 0) rfl _ hF3 ⟨t6, t7, t8, fun z => ?_, fun z => ?_, Or.inr (Or.inl rfl)⟩)
            · exact absurd (show (1 : Int) = 0 from z) (by decide)
            · exact absurd (show (1 : Int) = 2 from z) (by decide)
          · rw [if_neg k1, b131_107, t6]
            by_cases k0 : kind = 0
            · subst k0
              rw [if_pos rfl] at hn hy
              rw [if_pos rfl, b131_114]
              refine sp129 hF3 (by omega) h60 ?_ ?_
              · intro w1 m7 hF7
                rw [mm_psh_i, b131_118, if_pos rfl]
                cases hi : pIns (mi 71) (mi 69 4) a2 with
                | mk o3 a3 =>
                  rw [hi] at w1 hF7 hn
                  dsimp only at w1
                  subst w1
                  exact no _ (hn rfl _ hF7)
              · intro v0 v1 w1 m7 hF7 hS7 u10 u11
                rw [mm_psh_i, b131_118, if_neg (by omega), b131_121]
                cases hi : pIns (mi 71) (mi 69 4) a2 with
                | mk o3 a3 =>
                  rw [hi] at w1 hF7 hy
                  dsimp only at w1
                  subst w1
                  exact yes _ (hy (0, mi 71 a.toNat - 48, k, v0, v1) rfl _ hF7 ⟨hS7.1.trans t6, hS7.2.1.trans t7, hS7.2.2.trans t8, fun _ => ⟨u10, u11⟩, fun z => absurd (show (0 : Int) = 2 from z) (by decide), Or.inl rfl⟩)
            · have k2 : kind = 2 := by omega
              subst k2
              rw [if_neg k0, if_neg k1] at hn hy
              rw [if_neg k0, b131_124]
              refine sp130 hF3 (by omega) h60 ?_ ?_
              · intro w1 m7 hF7
                rw [mm_psh_i, b131_128, if_pos rfl]
                cases hi : pCell (mi 71) (mi 69 4) a2 with
                | mk o3 a3 =>
                  rw [hi] at w1 hF7 hn
                  dsimp only at w1
                  subst w1
                  exact no _ (hn rfl _ hF7)
              · intro c v w1 m7 hF7 hS7 u9 u10
                rw [mm_psh_i, b131_128, if_neg (by omega)]
                cases hi : pCell (mi 71) (mi 69 4) a2 with
                | mk o3 a3 =>
                  rw [hi] at w1 hF7 hy
                  dsimp only at w1
                  subst w1
                  exact yes _ (hy (2, mi 71 a.toNat - 48, k, c, v) rfl _ hF7 ⟨hS7.1.trans t6, hS7.2.1.trans t7, hS7.2.2.trans t8, fun z => absurd (show (2 : Int) = 0 from z) (by decide), fun _ => ⟨u9, u10⟩, Or.inr (Or.inr rfl)⟩)
    · intro q2
      rw [if_neg q2] at hn hy
      rw [mm_psh_i, b131_78, if_pos rfl]
      exact bad m4 (a + 1) hF1 (fun m6 g => hn rfl m6 g)
  · intro q1
    have q1 : ¬ pHit (mi 71) (mi 69 4) a 48 53 := q1
    rw [if_neg q1] at hn hy
    rw [mm_psh_i, b131_61, if_pos (by omega)]
    exact bad _ a (hF0.up (by omega)) (fun m6 g => hn rfl m6 g)
theorem sp131 (hF : pFr mi m1 a) (ha : 0 ≤ a ∧ a ≤ mi 69 4) (h60 : mi 69 4 ≤ 60) (hn : (pSt (mi 71) (mi 69 4) a).1 = none → ∀ m2, pFr mi m2 (pSt (mi 71) (mi 69 4) a).2 → Q (some (.inl 0)) (mm_ms0 m2 h))
    (hy : ∀ s, (pSt (mi 71) (mi 69 4) a).1 = some s → ∀ m2, pFr mi m2 (pSt (mi 71) (mi 69 4) a).2 → pGot m2 s → Q (some (.inl 1)) (mm_ms0 m2 h)) : mcl X 131 [.inr (some 69)] (mm_ms0 m1 h) Q := by
  rw [c131, b131_0]
  unfold pSt at hn hy
  refine sp125r hF ha h60 ?_ ?_
  · intro q1
    rw [if_pos q1] at hn hy
    rw [mm_psh_i, b131_7, if_neg (by omega), b131_10]
    exact sp131b hF.go (by omega) h60 (Or.inl rfl) hn hy
  · intro q1
    rw [if_neg q1] at hn hy
    rw [mm_psh_i, b131_7, if_pos rfl, b131_14]
    refine sp125r hF ha h60 ?_ ?_
    · intro q2
      rw [if_pos q2] at hn hy
      rw [mm_psh_i, b131_20, if_neg (by omega), b131_23]
      exact sp131b hF.go (by omega) h60 (Or.inr (Or.inl rfl)) hn hy
    · intro q2
      rw [if_neg q2] at hn hy
      rw [mm_psh_i, b131_20, if_pos rfl, b131_27]
      refine sp125r hF ha h60 ?_ ?_
      · intro q3
        rw [if_pos q3] at hn hy
        rw [mm_psh_i, b131_33, if_neg (by omega), b131_36]
        exact sp131b hF.go (by omega) h60 (Or.inr (Or.inr rfl)) hn hy
      · intro q3
        rw [if_neg q3] at hn hy
        rw [mm_psh_i, b131_33, if_pos rfl, b131_40, b131_41, if_pos (by omega), b131_52, b131_61, if_pos (by omega), b131_88, b131_89, if_pos (by omega), b131_135, b131_136]
        exact ⟨Or.inl rfl, hn rfl _ (((hF.up (by omega)).up (by omega)).up (by omega))⟩
end SM
