-- THE REFERENCE: a script surveyed and performed
def pFau (tx : Nat → Int) (n : Int) : Nat → Int → Int
  | 0, a => a
  | f + 1, a => match pSt tx n a with
    | (none, a2) => a2
    | (some _, a2) => if a2 = n then -1 else if pHit tx n a2 59 59 then pFau tx n f (a2 + 1) else a2
noncomputable def kDo (B : Int → Int) (s : pS) : Int × (Int → Int) := if s.1 = 0 then kIns B s.2.1 s.2.2.1 s.2.2.2.1 s.2.2.2.2 else if s.1 = 1 then kDele B s.2.1 s.2.2.1 else kUpd B s.2.1 s.2.2.1 s.2.2.2.1 s.2.2.2.2
def kBadA (r : Int) : Prop := r < -1 ∧ r ≠ -9
noncomputable def pRun (tx : Nat → Int) (n : Int) : Nat → Int → Int → (Int → Int) → Int × (Int → Int)
  | 0, _, c, B => (c, B)
  | f + 1, a, c, B => match pSt tx n a with
    | (none, _) => (c, B)
    | (some s, a2) => @ite _ (kBadA (kDo B s).1) (Classical.propDecidable _) (kDo B s) (if pHit tx n a2 59 59 then pRun tx n f (a2 + 1) (c + 1) (kDo B s).2 else (c + 1, (kDo B s).2))
theorem pTail_in {tx : Nat → Int} {n kind t k a : Int} (h : a ≤ n) : a ≤ (pTail tx n kind t k a).2 ∧ (pTail tx n kind t k a).2 ≤ n := by
  unfold pTail
  split
  · have : a ≤ (pIns tx n a).2 ∧ (pIns tx n a).2 ≤ n := by
      unfold pIns
      split
      · obtain ⟨p1, p2, p3⟩ := pVal_in (tx := tx) (n := n) (a := a + 1) (by omega)
        cases hv : pVal tx n (a + 1) with
        | mk o a2 =>
          rw [hv] at p1 p2
          dsimp only at p1 p2
          cases o with
          | none => exact ⟨by show a ≤ a2; omega, p2⟩
          | some v =>
            dsimp only
            split
            · obtain ⟨p4, p5, p6⟩ := pVal_in (tx := tx) (n := n) (a := a2 + 1) (by omega)
              cases hv2 : pVal tx n (a2 + 1) with
              | mk o2 a3 =>
                rw [hv2] at p4 p5
                dsimp only at p4 p5
                cases o2 with
                | none => exact ⟨by show a ≤ a3; omega, p5⟩
                | some v => exact ⟨by show a ≤ a3; omega, p5⟩
            · exact ⟨by show a ≤ a2; omega, p2⟩
      · exact ⟨Int.le_refl _, h⟩
    cases hi : pIns tx n a with
    | mk o a2 =>
      rw [hi] at this
      cases o with
      | none => exact this
      | some v => exact this
  · split
    · exact ⟨Int.le_refl _, h⟩
    · have : a ≤ (pCell tx n a).2 ∧ (pCell tx n a).2 ≤ n := by
        unfold pCell
        split
        · split
          · split
            · obtain ⟨p1, p2, p3⟩ := pVal_in (tx := tx) (n := n) (a := a + 3) (by omega)
              cases hv : pVal tx n (a + 3) with
              | mk o a2 =>
                rw [hv] at p1 p2
                dsimp only at p1 p2
                cases o with
                | none => exact ⟨by show a ≤ a2; omega, p2⟩
                | some v => exact ⟨by show a ≤ a2; omega, p2⟩
            · exact ⟨by show a ≤ a + 2; omega, by show a + 2 ≤ n; omega⟩
          · exact ⟨by show a ≤ a + 1; omega, by show a + 1 ≤ n; omega⟩
        · exact ⟨Int.le_refl _, h⟩
      cases hi : pCell tx n a with
      | mk o a2 =>
        rw [hi] at this
        cases o with
        | none => exact this
        | some v => exact this
theorem pBody_in {tx : Nat → Int} {n kind a : Int} (h : a ≤ n) : a ≤ (pBody tx n kind a).2 ∧ (pBody tx n kind a).2 ≤ n := by
  unfold pBody
  obtain ⟨p1, p2, p3⟩ := pRow_in (tx := tx) h
  cases hv : pRow tx n a with
  | mk o a2 =>
    rw [hv] at p1 p2
    dsimp only at p1 p2
    cases o with
    | none => exact ⟨p1, p2⟩
    | some v =>
      have := pTail_in (tx := tx) (kind := kind) (t := v.1) (k := v.2) p2
      exact ⟨Int.le_trans p1 this.1, this.2⟩
/-- a statement that was read takes a character or more -/
theorem pSt_in {tx : Nat → Int} {n a : Int} (h : a ≤ n) : a ≤ (pSt tx n a).2 ∧ (pSt tx n a).2 ≤ n ∧ (∀ s, (pSt tx n a).1 = some s → a < (pSt tx n a).2) := by
  unfold pSt
  have go : ∀ kind c, pHit tx n a c c → a ≤ (pBody tx n kind (a + 1)).2 ∧ (pBody tx n kind (a + 1)).2 ≤ n ∧ (∀ s, (pBody tx n kind (a + 1)).1 = some s → a < (pBody tx n kind (a + 1)).2) := by
    intro kind c hc
    obtain ⟨p1, p2⟩ := pBody_in (tx := tx) (n := n) (kind := kind) (a := a + 1) (by omega)
    exact ⟨by omega, p2, fun _ _ => by omega⟩
  split
  · exact go 0 43 (by assumption)
  · split
    · exact go 1 45 (by assumption)
    · split
      · exact go 2 64 (by assumption)
      · exact ⟨Int.le_refl _, h, fun s hs => by cases hs⟩
section SP
variable {X : Nat × (Nat → Int)} {mi m1 : mm_M} {h : mm_H} {Q : Option mm_V → mm_S → Prop} {a : Int}
theorem pFr.keep {m1 m2 : mm_M} (hF : pFr m1 m2 a) : kKeep m1 m2 := ⟨⟨fun b q _ _ _ _ _ => hF.1 b q, fun k q1 q2 _ _ => hF.2.1 k q2⟩, hF.2.1 1 (by omega), fun i _ => mB_eq (hF.1 70 (by decide)) _⟩
theorem sp132 (h60 : 0 ≤ mi 69 4 ∧ mi 69 4 ≤ 60) (hq : ∀ m2, kKeep mi m2 → Q (some (.inl (pFau (mi 71) (mi 69 4) 61 0))) (mm_ms0 m2 h)) : mcl X 132 [.inr (some 69)] (mm_ms0 mi h) Q := by
  rw [c132, b132_0]
  have key : ∀ (f : Nat) (a : Int) (m1 : mm_M), pFr mi m1 a → 0 ≤ a ∧ a ≤ mi 69 4 → mi 69 4 - a < f → (∀ m2, kKeep mi m2 → Q (some (.inl (pFau (mi 71) (mi 69 4) f a))) (mm_ms0 m2 h)) → mwp X 132 5 [some (.inr (some 69))] [] (mm_ms0 m1 h) Q := by
    intro f
    induction f with
    | zero => intro a m1 hF ha hf; omega
    | succ f ih =>
      intro a m1 hF ha hf g
      obtain ⟨p1, p2, p3⟩ := pSt_in (tx := mi 71) ha.2
      unfold pFau at g
      rw [b132_5]
      refine sp131 hF ha h60.2 ?_ ?_
      · intro w m2 hF2
        rw [mm_psh_i, b132_9, if_pos rfl, b132_39]
        cases hv : pSt (mi 71) (mi 69 4) a with
        | mk o a2 =>
          rw [hv] at w g hF2
          dsimp only at w
          subst w
          rw [hF2.2.2]
          exact g m2 hF2.keep
      · intro s w m2 hF2 _
        have p4 := p3 s w
        rw [mm_psh_i, b132_9, if_neg (by omega), b132_12, hF2.2.2, hF2.2.1 4 (by omega)]
        cases hv : pSt (mi 71) (mi 69 4) a with
        | mk o a2 =>
          rw [hv] at w g hF2 p1 p2 p4
          dsimp only at w p1 p2 p4 hF2 ⊢
          subst w
          dsimp only at g
          by_cases q1 : a2 = mi 69 4
          · rw [if_pos q1] at g
            rw [if_pos q1, b132_23]
            exact g m2 hF2.keep
          · rw [if_neg q1] at g
            rw [if_neg q1, b132_25]
            refine sp125r hF2 (by omega) h60.2 ?_ ?_
            · intro q2
              rw [if_pos q2] at g
              rw [mm_psh_i, b132_31, if_neg (by omega)]
              exact ih (a2 + 1) _ hF2.go (by omega) (by omega) g
            · intro q2
              rw [if_neg q2] at g
              rw [mm_psh_i, b132_31, if_pos rfl, b132_34, hF2.2.2]
              exact g m2 hF2.keep
  exact key 61 0 _ (pFr.rf.go) (by omega) (by omega) hq
theorem sp133 {s : pS} (hG : pGot mi s) (hM : mOk (kBlk mi 6)) (hq : ∀ r mi2, kDo (kBlk mi 6) s = (r, kBlk mi2 6) → kKeep mi mi2 → mi2 69 5 = mi 69 5 → Q (some (.inl r)) (mm_ms0 mi2 h)) : mcl X 133 [.inr (some 69)] (mm_ms0 mi h) Q := by
  obtain ⟨g6, g7, g8, g0, g2, gk⟩ := hG
  rw [c133, b133_0, g6]
  unfold kDo at hq
  by_cases k0 : s.1 = 0
  · rw [if_pos k0] at hq
    rw [if_pos k0, b133_32, g7, g8, (g0 k0).1, (g0 k0).2]
    refine sp112 kb6 hM.1 ?_
    intro r mi2 he hF
    rw [mm_psh_i, b133_55]
    exact hq r mi2 he hF.keep (hF.2.1 5 (by decide) (by decide))
  · rw [if_neg k0] at hq ⊢
    by_cases k1 : s.1 = 1
    · rw [if_pos k1] at hq
      rw [if_pos k1, b133_56, g7, g8]
      refine sp109 kb6 hM.1 hM.2.2 ?_
      intro r mi2 he hF
      rw [mm_psh_i, b133_71]
      exact hq r mi2 he hF.keep (hF.2.1 5 (by decide) (by decide))
    · have k2 : s.1 = 2 := by omega
      rw [if_neg k1] at hq
      rw [if_neg k1, b133_72, g7, g8, (g2 k2).1, (g2 k2).2]
      refine sp113 kb6 hM.1 hM.2.1 ?_
      intro r mi2 he hF
      rw [mm_psh_i, b133_95]
      exact hq r mi2 he hF.keep (hF.2.1 5 (by decide) (by decide))
end SP
