-- THE CLASS reads a statement, surveys a text
def cGot (m : mm_M) (s : pS) : Prop := m 59 2 = (if s.1 = 0 then 43 else if s.1 = 1 then 45 else 64) ∧ m 59 3 = s.2.1 ∧ m 59 4 = s.2.2.1 ∧ (s.1 = 0 → m 59 6 = s.2.2.2.1 ∧ m 59 7 = s.2.2.2.2) ∧ (s.1 = 2 → m 59 5 = s.2.2.2.1 ∧ m 59 6 = s.2.2.2.2) ∧ (s.1 = 0 ∨ s.1 = 1 ∨ s.1 = 2)
section CSD
variable {X : Nat × (Nat → Int)} {mi : mm_M} {h : mm_H} {Q : Option mm_V → mm_S → Prop}
abbrev qAll : List Nat := [2, 3, 4, 5, 6, 7, 8, 9]
theorem sp25 (hp : qOk mi) (h0 : (pSt (mi 60) (mi 59 1) (mi 59 8)).1 = none → ∀ m2, qN qAll mi m2 → m2 59 8 = (pSt (mi 60) (mi 59 1) (mi 59 8)).2 → Q (some (.inl 0)) (mm_ms0 m2 h)) (h1 : ∀ s, (pSt (mi 60) (mi 59 1) (mi 59 8)).1 = some s → ∀ m2, qN qAll mi m2 → m2 59 8 = (pSt (mi 60) (mi 59 1) (mi 59 8)).2 → cGot m2 s → Q (some (.inl 1)) (mm_ms0 m2 h)) : mcl X 25 [.inr (some 59)] (mm_ms0 mi h) Q := by
  rw [c25, b25_0]
  have hF : qN qAll mi (mm_up (mm_up mi 59 6 (-1)) 59 7 (-1)) := (qN.rf.up (by decide)).up (by decide)
  have e8 : mm_up (mm_up mi 59 6 (-1)) 59 7 (-1) 59 8 = mi 59 8 := by rw [mm_up_at2 (by decide), mm_up_at2 (by decide)]
  have e6 : mm_up (mm_up mi 59 6 (-1)) 59 7 (-1) 59 6 = -1 := by rw [mm_up_at2 (by decide), mm_up_at]
  have e7 : mm_up (mm_up mi 59 6 (-1)) 59 7 (-1) 59 7 = -1 := by rw [mm_up_at]
  generalize mm_up (mm_up mi 59 6 (-1)) 59 7 (-1) = m1 at hF e8 e6 e7 ⊢
  obtain ⟨e1, e60⟩ := hF.pk (by decide)
  have hp1 : qOk m1 := by unfold qOk at hp ⊢; rw [e8, e1]; exact hp
  unfold qOk at hp
  unfold pSt at h0 h1
  refine sp32 hp1 ?_ ?_
  · intro q1
    rw [e60, e1, e8] at q1
    rw [if_pos q1] at h0 h1
    rw [mm_psh_i, b25_16, if_neg (by decide), b25_19]
    have hF2 : qN qAll mi (mm_up (mm_up m1 59 8 (m1 59 8 + 1)) 59 2 43) := (hF.up (by decide)).up (by decide)
    have f8 : mm_up (mm_up m1 59 8 (m1 59 8 + 1)) 59 2 43 59 8 = mi 59 8 + 1 := by rw [mm_up_at2 (by decide), mm_up_at, e8]
    have f2 : mm_up (mm_up m1 59 8 (m1 59 8 + 1)) 59 2 43 59 2 = 43 := mm_up_at
    have f6 : mm_up (mm_up m1 59 8 (m1 59 8 + 1)) 59 2 43 59 6 = -1 := by rw [mm_up_at2 (by decide), mm_up_at2 (by decide)]; exact e6
    have f7 : mm_up (mm_up m1 59 8 (m1 59 8 + 1)) 59 2 43 59 7 = -1 := by rw [mm_up_at2 (by decide), mm_up_at2 (by decide)]; exact e7
    generalize mm_up (mm_up m1 59 8 (m1 59 8 + 1)) 59 2 43 = m2 at hF2 f8 f2 f6 f7 ⊢
    obtain ⟨g1, g60⟩ := hF2.pk (by decide)
    have hp2 : qOk m2 := by unfold qOk; rw [f8, g1]; have := q1.1; omega
    unfold pBody pTail at h0 h1
    obtain ⟨pi1, pi2, pi3⟩ := pRow_in (tx := mi 60) (n := mi 59 1) (a := mi 59 8 + 1) (by have := q1.1; omega)
    cases hr : pRow (mi 60) (mi 59 1) (mi 59 8 + 1) with
    | mk o a2 =>
      rw [hr] at h0 h1 pi1 pi2
      dsimp only at pi1 pi2
      refine sp26 hp2 ?_ ?_
      · intro z m3 k1 k2
        rw [g60, g1, f8, hr] at z k2
        dsimp only at z k2
        subst z
        rw [mm_psh_i, b25_29, if_pos rfl, b25_43, b25_44]
        exact ⟨Or.inl rfl, h0 rfl m3 (hF2.tr (k1.sub (by decide))) k2⟩
      · intro t k z m3 k1 k2 k3 k4
        rw [g60, g1, f8, hr] at z k2
        dsimp only at z k2
        subst z
        dsimp only at h0 h1
        rw [if_pos rfl] at h0 h1
        have hF3 := hF2.tr (k1.sub (l2 := qAll) (by decide))
        obtain ⟨y1, y60⟩ := hF3.pk (by decide)
        have hp3 : qOk m3 := by unfold qOk; rw [k2, y1]; omega
        rw [mm_psh_i, b25_29, if_neg (by decide), b25_32]
        cases hi : pIns (mi 60) (mi 59 1) a2 with
        | mk o2 a3 =>
          rw [hi] at h0 h1
          refine sp27 hp3 (by rw [k1.2 6 (by decide)]; exact f6) (by rw [k1.2 7 (by decide)]; exact f7) ?_ ?_
          · intro z m4 x1 x2
            rw [y60, y1, k2, hi] at z x2
            dsimp only at z x2
            subst z
            rw [mm_psh_i, b25_36, if_pos rfl, b25_43, b25_44]
            exact ⟨Or.inl rfl, h0 rfl m4 (hF3.tr (x1.sub (by decide))) x2⟩
          · intro v0 v1 z m4 x1 x2 x3 x4
            rw [y60, y1, k2, hi] at z x2
            dsimp only at z x2
            subst z
            rw [mm_psh_i, b25_36, if_neg (by decide), b25_39, b25_44]
            refine ⟨Or.inr rfl, h1 (0, t, k, v0, v1) rfl m4 (hF3.tr (x1.sub (by decide))) x2 ⟨?_, ?_, ?_, fun _ => ⟨x3, x4⟩, fun z => absurd z (by dsimp only; decide), Or.inl rfl⟩⟩
            · rw [x1.2 2 (by decide), k1.2 2 (by decide), f2, if_pos rfl]
            · rw [x1.2 3 (by decide), k3]
            · rw [x1.2 4 (by decide), k4]
  · intro q1
    rw [e60, e1, e8] at q1
    rw [if_neg q1] at h0 h1
    rw [mm_psh_i, b25_16, if_pos rfl, b25_45]
    refine sp32 hp1 ?_ ?_
    · intro q2
      rw [e60, e1, e8] at q2
      rw [if_pos q2] at h0 h1
      rw [mm_psh_i, b25_51, if_neg (by decide), b25_54]
      have hF2 : qN qAll mi (mm_up (mm_up m1 59 8 (m1 59 8 + 1)) 59 2 45) := (hF.up (by decide)).up (by decide)
      have f8 : mm_up (mm_up m1 59 8 (m1 59 8 + 1)) 59 2 45 59 8 = mi 59 8 + 1 := by rw [mm_up_at2 (by decide), mm_up_at, e8]
      have f2 : mm_up (mm_up m1 59 8 (m1 59 8 + 1)) 59 2 45 59 2 = 45 := mm_up_at
      generalize mm_up (mm_up m1 59 8 (m1 59 8 + 1)) 59 2 45 = m2 at hF2 f8 f2 ⊢
      obtain ⟨g1, g60⟩ := hF2.pk (by decide)
      have hp2 : qOk m2 := by unfold qOk; rw [f8, g1]; have := q2.1; omega
      unfold pBody pTail at h0 h1
      cases hr : pRow (mi 60) (mi 59 1) (mi 59 8 + 1) with
      | mk o a2 =>
        rw [hr] at h0 h1
        refine sp26 hp2 ?_ ?_
        · intro z m3 k1 k2
          rw [g60, g1, f8, hr] at z k2
          dsimp only at z k2
          subst z
          rw [mm_psh_i, b25_64]
          exact ⟨Or.inl rfl, h0 rfl m3 (hF2.tr (k1.sub (by decide))) k2⟩
        · intro t k z m3 k1 k2 k3 k4
          rw [g60, g1, f8, hr] at z k2
          dsimp only at z k2
          subst z
          dsimp only at h0 h1
          rw [if_neg (by decide), if_pos rfl] at h0 h1
          rw [mm_psh_i, b25_64]
          refine ⟨Or.inr rfl, h1 (1, t, k, 0, 0) rfl m3 (hF2.tr (k1.sub (by decide))) k2 ⟨?_, k3, k4, fun z => absurd z (by dsimp only; decide), fun z => absurd z (by dsimp only; decide), Or.inr (Or.inl rfl)⟩⟩
          rw [k1.2 2 (by decide), f2]
          rfl
    · intro q2
      rw [e60, e1, e8] at q2
      rw [if_neg q2] at h0 h1
      rw [mm_psh_i, b25_51, if_pos rfl, b25_65]
      refine sp32 hp1 ?_ ?_
      · intro q3
        rw [e60, e1, e8] at q3
        rw [if_pos q3] at h0 h1
        rw [mm_psh_i, b25_71, if_neg (by decide), b25_74]
        have hF2 : qN qAll mi (mm_up (mm_up m1 59 8 (m1 59 8 + 1)) 59 2 64) := (hF.up (by decide)).up (by decide)
        have f8 : mm_up (mm_up m1 59 8 (m1 59 8 + 1)) 59 2 64 59 8 = mi 59 8 + 1 := by rw [mm_up_at2 (by decide), mm_up_at, e8]
        have f2 : mm_up (mm_up m1 59 8 (m1 59 8 + 1)) 59 2 64 59 2 = 64 := mm_up_at
        generalize mm_up (mm_up m1 59 8 (m1 59 8 + 1)) 59 2 64 = m2 at hF2 f8 f2 ⊢
        obtain ⟨g1, g60⟩ := hF2.pk (by decide)
        have hp2 : qOk m2 := by unfold qOk; rw [f8, g1]; have := q3.1; omega
        unfold pBody pTail at h0 h1
        obtain ⟨pi1, pi2, pi3⟩ := pRow_in (tx := mi 60) (n := mi 59 1) (a := mi 59 8 + 1) (by have := q3.1; omega)
        cases hr : pRow (mi 60) (mi 59 1) (mi 59 8 + 1) with
        | mk o a2 =>
          rw [hr] at h0 h1 pi1 pi2
          dsimp only at pi1 pi2
          refine sp26 hp2 ?_ ?_
          · intro z m3 k1 k2
            rw [g60, g1, f8, hr] at z k2
            dsimp only at z k2
            subst z
            rw [mm_psh_i, b25_84, if_pos rfl, b25_98, b25_99]
            exact ⟨Or.inl rfl, h0 rfl m3 (hF2.tr (k1.sub (by decide))) k2⟩
          · intro t k z m3 k1 k2 k3 k4
            rw [g60, g1, f8, hr] at z k2
            dsimp only at z k2
            subst z
            dsimp only at h0 h1
            rw [if_neg (by decide), if_neg (by decide)] at h0 h1
            have hF3 := hF2.tr (k1.sub (l2 := qAll) (by decide))
            obtain ⟨y1, y60⟩ := hF3.pk (by decide)
            have hp3 : qOk m3 := by unfold qOk; rw [k2, y1]; omega
            rw [mm_psh_i, b25_84, if_neg (by decide), b25_87]
            cases hi : pCell (mi 60) (mi 59 1) a2 with
            | mk o2 a3 =>
              rw [hi] at h0 h1
              refine sp28 hp3 ?_ ?_
              · intro z m4 x1 x2
                rw [y60, y1, k2, hi] at z x2
                dsimp only at z x2
                subst z
                rw [mm_psh_i, b25_91, if_pos rfl, b25_98, b25_99]
                exact ⟨Or.inl rfl, h0 rfl m4 (hF3.tr (x1.sub (by decide))) x2⟩
              · intro c v z m4 x1 x2 x3 x4
                rw [y60, y1, k2, hi] at z x2
                dsimp only at z x2
                subst z
                rw [mm_psh_i, b25_91, if_neg (by decide), b25_94, b25_99]
                refine ⟨Or.inr rfl, h1 (2, t, k, c, v) rfl m4 (hF3.tr (x1.sub (by decide))) x2 ⟨?_, ?_, ?_, fun z => absurd z (by dsimp only; decide), fun _ => ⟨x3, x4⟩, Or.inr (Or.inr rfl)⟩⟩
                · rw [x1.2 2 (by decide), k1.2 2 (by decide), f2]
                  rfl
                · rw [x1.2 3 (by decide), k3]
                · rw [x1.2 4 (by decide), k4]
      · intro q3
        rw [e60, e1, e8] at q3
        rw [if_neg q3] at h0 h1
        rw [mm_psh_i, b25_71, if_pos rfl, b25_100]
        exact h0 rfl m1 hF e8
theorem sp23 (hq : Q none (mm_ms0 (mm_up mi 59 8 0) h)) : mcl X 23 [.inr (some 59)] (mm_ms0 mi h) Q := by
  rw [c23, b23_0]
  exact hq
/-- how many statements a text has that has no fault -/
def pNum (tx : Nat → Int) (n : Int) : Nat → Int → Int
  | 0, _ => 0
  | f + 1, a => match pSt tx n a with
    | (none, _) => 0
    | (some _, a2) => if a2 = n then 1 else if pHit tx n a2 59 59 then 1 + pNum tx n f (a2 + 1) else 0
theorem sp24 (h60 : 0 ≤ mi 59 1 ∧ mi 59 1 ≤ 60) (hb : 0 ≤ pFau (mi 60) (mi 59 1) 61 0 → ∀ m2, qN qAll mi m2 → Q (some (.inl (-100 - pFau (mi 60) (mi 59 1) 61 0))) (mm_ms0 m2 h)) (hg : pFau (mi 60) (mi 59 1) 61 0 < 0 → ∀ m2, qN qAll mi m2 → Q (some (.inl (pNum (mi 60) (mi 59 1) 61 0))) (mm_ms0 m2 h)) : mcl X 24 [.inr (some 59)] (mm_ms0 mi h) Q := by
  rw [c24, b24_0]
  refine sp23 ?_
  rw [mm_psh_n, b24_4]
  have key : ∀ (f : Nat) (a c : Int) (m : mm_M), qN qAll mi m → m 59 8 = a → 0 ≤ a ∧ a ≤ mi 59 1 → 1 ≤ c ∧ 2 * (c - 1) ≤ a → mi 59 1 - a < f → (0 ≤ pFau (mi 60) (mi 59 1) f a → ∀ m2, qN qAll mi m2 → Q (some (.inl (-100 - pFau (mi 60) (mi 59 1) f a))) (mm_ms0 m2 h)) → (pFau (mi 60) (mi 59 1) f a < 0 → ∀ m2, qN qAll mi m2 → Q (some (.inl (c - 1 + pNum (mi 60) (mi 59 1) f a))) (mm_ms0 m2 h)) → mwp X 24 6 [some (.inr (some 59)), some (.inl c)] [] (mm_ms0 m h) Q := by
    intro f
    induction f with
    | zero => intro a c m _ _ ha _ hf; omega
    | succ f ih =>
      intro a c m hF e8 ha hc hf hb hg
      obtain ⟨e1, e60⟩ := hF.pk (by decide)
      have hp : qOk m := by unfold qOk; rw [e8, e1]; omega
      obtain ⟨p1, p2, p3⟩ := pSt_in (tx := mi 60) ha.2
      unfold pFau pNum at hg
      unfold pFau at hb
      cases hs : pSt (mi 60) (mi 59 1) a with
      | mk o a2 =>
        rw [hs] at hb hg p1 p2 p3
        dsimp only at p1 p2 p3
        rw [b24_6, if_neg (by omega), b24_12]
        refine sp25 hp ?_ ?_
        · intro z m2 k1 k2
          rw [e60, e1, e8, hs] at z k2
          dsimp only at z k2
          subst z
          dsimp only at hb
          rw [mm_psh_i, b24_16, if_pos rfl, b24_19, k2, mm_wi (by omega) (by omega)]
          exact hb (by omega) m2 (hF.tr k1)
        · intro s z m2 k1 k2 _
          rw [e60, e1, e8, hs] at z k2
          dsimp only at z k2
          subst z
          dsimp only at hb hg
          have pa := p3 s rfl
          have hF2 := hF.tr k1
          obtain ⟨g1, g60⟩ := hF2.pk (by decide)
          have hp2 : qOk m2 := by unfold qOk; rw [k2, g1]; omega
          rw [mm_psh_i, b24_16, if_neg (by decide), b24_27, k2, g1]
          by_cases q1 : a2 = mi 59 1
          · rw [if_pos q1, if_pos q1] at hg
            rw [if_pos q1, b24_38]
            have := hg (by decide) m2 hF2
            rw [show c - 1 + 1 = c by omega] at this
            exact this
          · rw [if_neg q1, if_neg q1] at hg
            rw [if_neg q1] at hb
            rw [if_neg q1, b24_40]
            refine sp32 hp2 ?_ ?_
            · intro q2
              rw [g60, g1, k2] at q2
              rw [if_pos q2, if_pos q2] at hg
              rw [if_pos q2] at hb
              rw [mm_psh_i, b24_46, if_neg (by decide), b24_57, mm_wi (by omega) (by omega)]
              refine ih (a2 + 1) (c + 1) _ (hF2.up (by decide)) (by rw [mm_up_at, k2]) (by have := q2.1; omega) (by omega) (by omega) hb (fun z m3 hm3 => ?_)
              have := hg z m3 hm3
              rw [show c - 1 + (1 + pNum (mi 60) (mi 59 1) f (a2 + 1)) = c + 1 - 1 + pNum (mi 60) (mi 59 1) f (a2 + 1) by omega] at this
              exact this
            · intro q2
              rw [g60, g1, k2] at q2
              rw [if_neg q2] at hb
              rw [mm_psh_i, b24_46, if_pos rfl, b24_49, k2, mm_wi (by omega) (by omega)]
              exact hb (by omega) m2 hF2
  refine key 61 0 1 _ (qN.rf.up (by decide)) mm_up_at (by omega) (by omega) (by omega) hb (fun z m2 hm2 => ?_)
  have := hg z m2 hm2
  rw [show (1 : Int) - 1 + pNum (mi 60) (mi 59 1) 61 0 = pNum (mi 60) (mi 59 1) 61 0 by omega]
  exact this
end CSD
