-- THE REFERENCE: a script performed
section SQ
variable {X : Nat × (Nat → Int)} {mi m1 : mm_M} {h : mm_H} {Q : Option mm_V → mm_S → Prop} {a : Int}
theorem pFr.blk {m1 m2 : mm_M} (hF : pFr m1 m2 a) (i : Nat) : kBlk m2 i = kBlk m1 i := mB_eq (hF.1 70 (by decide)) _
theorem pFau_in {tx : Nat → Int} {n : Int} : ∀ (f : Nat) (a : Int), 0 ≤ a ∧ a ≤ n → -1 ≤ pFau tx n f a ∧ pFau tx n f a ≤ n := by
  intro f
  induction f with
  | zero => intro a ha; exact ⟨by show -1 ≤ a; omega, ha.2⟩
  | succ f ih =>
    intro a ha
    obtain ⟨p1, p2, p3⟩ := pSt_in (tx := tx) ha.2
    unfold pFau
    cases hv : pSt tx n a with
    | mk o a2 =>
      rw [hv] at p1 p2
      dsimp only at p1 p2
      cases o with
      | none => exact ⟨by show -1 ≤ a2; omega, p2⟩
      | some s =>
        dsimp only
        split
        · omega
        · split
          · exact ih (a2 + 1) (by omega)
          · omega
theorem sp134 {I : (Int → Int) → Prop} (hI : ∀ B, I B → mOk B) (hstep : ∀ B s, I B → ¬ kBadA (kDo B s).1 → I (kDo B s).2) (h60 : 0 ≤ mi 69 4 ∧ mi 69 4 ≤ 60) (hs : 0 ≤ mi 69 1 ∧ mi 69 1 ≤ 4) (h0 : I (kBlk mi 0))
    (hbad : 0 ≤ pFau (mi 71) (mi 69 4) 61 0 → ∀ mi2, kKeep mi mi2 → Q (some (.inl (-100 - pFau (mi 71) (mi 69 4) 61 0))) (mm_ms0 mi2 h))
    (hrun : pFau (mi 71) (mi 69 4) 61 0 < 0 → kAct mi h Q (pRun (mi 71) (mi 69 4) 61 0 0 (kBlk mi 0))) : mcl X 134 [.inr (some 69)] (mm_ms0 mi h) Q := by
  rw [c134, b134_0]
  refine sp132 h60 ?_
  intro m0 hK0
  have hfi := pFau_in (tx := mi 71) (n := mi 69 4) 61 0 (by omega)
  rw [mm_psh_i, b134_4]
  by_cases q1 : pFau (mi 71) (mi 69 4) 61 0 < 0
  · have hA := hrun q1
    rw [if_pos q1, b134_14]
    refine sp114 (f := 0) (t := 6) (by omega) (by omega) (by omega) ?_
    have hK1 : kKeep mi (kCp m0 0 6) := hK0.tr kKeep.cp
    have hB1 : kBlk (kCp m0 0 6) 6 = kBlk mi 0 := (kCp_at m0 0 6).trans (hK0.2.2 0 (by decide))
    generalize kCp m0 0 6 = m1 at hK1 hB1 ⊢
    generalize pFau (mi 71) (mi 69 4) 61 0 = l1
    rw [mm_psh_n, b134_21]
    have key : ∀ (f : Nat) (a c : Int) (B : Int → Int) (m1 m2 : mm_M) (v : Int) (o4 : Option mm_V), kKeep mi m1 → kBlk m1 6 = B → I B → 0 ≤ a ∧ a ≤ mi 69 4 → 0 ≤ c ∧ c ≤ a → mi 69 4 - a < f → kAct mi h Q (pRun (mi 71) (mi 69 4) f a c B) → pFr m1 m2 (pSt (mi 71) (mi 69 4) a).2 →
        ((pSt (mi 71) (mi 69 4) a).1 = none ∧ v = 0 ∨ ∃ s, (pSt (mi 71) (mi 69 4) a).1 = some s ∧ v = 1 ∧ pGot m2 s) → mwp X 134 33 [some (.inr (some 69)), some (.inl l1), some (.inl c), some (.inl v), o4] [] (mm_ms0 m2 h) Q := by
      intro f
      induction f with
      | zero => intro a c B m1 m2 v o4 hK hB hIB ha hc hf; omega
      | succ f ih =>
        intro a c B m1 m2 v o4 hK hB hIB ha hc hf hA hF2 hv
        have hK2 : kKeep mi m2 := hK.tr hF2.keep
        have hB2 : kBlk m2 6 = B := (hF2.blk 6).trans hB
        obtain ⟨p1, p2, p3⟩ := pSt_in (tx := mi 71) ha.2
        -- the end: what was done is taken
        have fin : ∀ (c2 : Int) (m3 : mm_M) (B3 : Int → Int) (o : Option mm_V), 0 ≤ c2 → kKeep mi m3 → kBlk m3 6 = B3 → kAct mi h Q (c2, B3) → mwp X 134 87 [some (.inr (some 69)), some (.inl l1), some (.inl c2), some (.inl 0), o] [] (mm_ms0 m3 h) Q := by
          intro c2 m3 B3 o hc2 hK3 hB3 g
          rw [b134_87]
          refine sp115' hK3 hs (fun z => by omega) ?_
          intro hv2 m4 hT
          rw [mm_psh_i, b134_92]
          rw [hB3] at hT
          exact g.2 hv2 m4 hT
        unfold pRun at hA
        cases hp : pSt (mi 71) (mi 69 4) a with
        | mk o a2 =>
          rw [hp] at hA hv p1 p2 p3 hF2
          dsimp only at hv p1 p2 p3 hF2
          cases o with
          | none =>
            dsimp only at hA
            have hv0 : v = 0 := by
              rcases hv with ⟨_, e⟩ | ⟨s, e, _⟩
              · exact e
              · cases e
            subst hv0
            rw [b134_33, if_pos rfl]
            exact fin c m2 B _ hc.1 hK2 hB2 hA
          | some s =>
            dsimp only at hA
            have hv1 : v = 1 ∧ pGot m2 s := by
              rcases hv with ⟨e, _⟩ | ⟨s2, e, e2⟩
              · cases e
              · cases e; exact e2
            obtain ⟨rfl, hG⟩ := hv1
            have p4 := p3 s rfl
            rw [b134_33, if_neg (by omega), b134_37]
            refine sp133 hG (by rw [hB2]; exact hI B hIB) ?_
            intro r m3 he hK3 e35
            rw [hB2] at he
            have hK3' : kKeep mi m3 := hK2.tr hK3
            have e5 : m3 69 5 = a2 := e35.trans hF2.2.2
            have e4 : m3 69 4 = mi 69 4 := hK3'.1.2 4 (by decide) (by omega) (by decide) (by decide)
            have e71 : m3 71 = mi 71 := hK3'.1.1 71 (by decide) (by decide) (by decide) (by decide) (by decide) (by decide)
            rw [mm_psh_i, b134_41]
            by_cases qb : kBadA r
            · rw [he, if_pos (show kBadA (r, kBlk m3 6).1 from qb)] at hA
              rw [if_pos qb.1, b134_49, if_neg qb.2, b134_56]
              exact hA.1 qb.1 m3 hK3'
            · rw [he, if_neg (show ¬ kBadA (r, kBlk m3 6).1 from qb)] at hA
              have hI3 : I (kBlk m3 6) := by
                have := hstep B s hIB (by rw [he]; exact qb)
                rw [he] at this
                exact this
              dsimp only at hA
              have go : mwp X 134 59 [some (.inr (some 69)), some (.inl l1), some (.inl c), some (.inl 1), some (.inl r)] [] (mm_ms0 m3 h) Q := by
                rw [b134_59, mm_wi (z := c + 1) (by omega) (by omega)]
                refine sp125r (mi := m3) (a := a2) ⟨fun _ _ => rfl, fun _ _ => rfl, e5⟩ (by omega) (by omega) ?_ ?_
                · intro q2
                  rw [e71, e4] at q2
                  rw [if_pos q2] at hA
                  rw [mm_psh_i, b134_68, if_neg (by omega), b134_71]
                  have hK4 : kKeep mi (mm_up m3 69 5 (a2 + 1)) := hK3'.tr (pFr.keep (pFr.rf (mi := m3)).go)
                  have hB4 : kBlk (mm_up m3 69 5 (a2 + 1)) 6 = kBlk m3 6 := mB_eq (mm_up_ne (by decide)) _
                  have f5 : mm_up m3 69 5 (a2 + 1) 69 5 = a2 + 1 := mm_up_at
                  have f4 : mm_up m3 69 5 (a2 + 1) 69 4 = mi 69 4 := by rw [mm_up_at2 (by decide)]; exact e4
                  have f71 : mm_up m3 69 5 (a2 + 1) 71 = mi 71 := by rw [mm_up_ne (by decide)]; exact e71
                  generalize mm_up m3 69 5 (a2 + 1) = m4 at hK4 hB4 f5 f4 f71 ⊢
                  have nx := ih (a2 + 1) (c + 1) (kBlk m3 6) m4
                  refine sp131 (mi := m4) (a := a2 + 1) ⟨fun _ _ => rfl, fun _ _ => rfl, f5⟩ (by omega) (by omega) ?_ ?_
                  · intro w m5 hF5
                    rw [f71, f4] at w hF5
                    rw [mm_psh_i, b134_75, if_pos rfl, b134_82, b134_83]
                    exact nx m5 0 _ hK4 hB4 hI3 (by omega) (by omega) (by omega) hA hF5 (Or.inl ⟨w, rfl⟩)
                  · intro s2 w m5 hF5 hG5
                    rw [f71, f4] at w hF5
                    rw [mm_psh_i, b134_75, if_neg (by omega), b134_78, b134_83]
                    exact nx m5 1 _ hK4 hB4 hI3 (by omega) (by omega) (by omega) hA hF5 (Or.inr ⟨s2, w, rfl, hG5⟩)
                · intro q2
                  rw [e71, e4] at q2
                  rw [if_neg q2] at hA
                  rw [mm_psh_i, b134_68, if_pos rfl, b134_82, b134_83, b134_33, if_pos rfl]
                  exact fin (c + 1) m3 (kBlk m3 6) _ (by omega) hK3' rfl hA
              by_cases qc : r < -1
              · rw [if_pos qc, b134_49, if_pos (by unfold kBadA at qb; omega)]
                exact go
              · rw [if_neg qc]
                exact go
    have hK4 : kKeep mi (mm_up m1 69 5 0) := hK1.tr (pFr.keep (pFr.rf (mi := m1)).go)
    have hB4 : kBlk (mm_up m1 69 5 0) 6 = kBlk mi 0 := (mB_eq (mm_up_ne (by decide)) _).trans hB1
    have f5 : mm_up m1 69 5 0 69 5 = 0 := mm_up_at
    generalize mm_up m1 69 5 0 = m4 at hK4 hB4 f5 ⊢
    have f4 : m4 69 4 = mi 69 4 := hK4.1.2 4 (by decide) (by omega) (by decide) (by decide)
    have f71 : m4 71 = mi 71 := hK4.1.1 71 (by decide) (by decide) (by decide) (by decide) (by decide) (by decide)
    have nx := key 61 0 0 (kBlk mi 0) m4
    refine sp131 (mi := m4) (a := 0) ⟨fun _ _ => rfl, fun _ _ => rfl, f5⟩ (by omega) (by omega) ?_ ?_
    · intro w m5 hF5
      rw [f71, f4] at w hF5
      rw [mm_psh_i, b134_32]
      exact nx m5 0 _ hK4 hB4 h0 (by omega) (by omega) (by omega) hA hF5 (Or.inl ⟨w, rfl⟩)
    · intro s2 w m5 hF5 hG5
      rw [f71, f4] at w hF5
      rw [mm_psh_i, b134_32]
      exact nx m5 1 _ hK4 hB4 h0 (by omega) (by omega) (by omega) hA hF5 (Or.inr ⟨s2, w, rfl, hG5⟩)
  · rw [if_neg q1, b134_9, mm_wi (by omega) (by omega)]
    exact hbad (by omega) m0 hK0
end SQ
