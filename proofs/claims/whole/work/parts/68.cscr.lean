-- THE CLASS reads a script as the pure reader does
/-- nothing of the Script but these fields has changed -/
def qN (l : List Nat) (mi m2 : mm_M) : Prop := (∀ b, b ≠ 59 → m2 b = mi b) ∧ ∀ k, k ∉ l → m2 59 k = mi 59 k
theorem qN.rf {l : List Nat} {mi : mm_M} : qN l mi mi := ⟨fun _ _ => rfl, fun _ _ => rfl⟩
theorem qN.tr {l : List Nat} {m1 m2 m3 : mm_M} (h1 : qN l m1 m2) (h2 : qN l m2 m3) : qN l m1 m3 := ⟨fun b hb => (h2.1 b hb).trans (h1.1 b hb), fun k hk => (h2.2 k hk).trans (h1.2 k hk)⟩
theorem qN.up {l : List Nat} {m1 m2 : mm_M} {k : Nat} {v : Int} (h : qN l m1 m2) (hk : k ∈ l) : qN l m1 (mm_up m2 59 k v) := ⟨fun b hb => by rw [mm_up_ne hb]; exact h.1 b hb, fun j hj => by
  have hne : j ≠ k := fun e => hj (by rw [e]; exact hk)
  rw [mm_up_at2 hne]; exact h.2 j hj⟩
theorem qN.sub {l l2 : List Nat} {m1 m2 : mm_M} (h : qN l m1 m2) (hl : ∀ k, k ∈ l → k ∈ l2) : qN l2 m1 m2 := ⟨h.1, fun k hk => h.2 k (fun z => hk (hl k z))⟩
theorem qN.pk {l : List Nat} {m1 m2 : mm_M} (h : qN l m1 m2) (h1 : 1 ∉ l) : m2 59 1 = m1 59 1 ∧ m2 60 = m1 60 := ⟨h.2 1 h1, h.1 60 (by decide)⟩
theorem pKey_none {tx : Nat → Int} {n a : Int} (h : (pKey tx n a).1 = none) : (pKey tx n a).2 = a := by
  unfold pKey at h ⊢
  split at h
  · split at h
    · cases h
    · split at h <;> cases h
  · rename_i q
    rw [if_neg q]
section CSC
variable {X : Nat × (Nat → Int)} {mi : mm_M} {h : mm_H} {Q : Option mm_V → mm_S → Prop}
/-- the class's place in a text of at most sixty -/
def qOk (mi : mm_M) : Prop := (0 ≤ mi 59 8 ∧ mi 59 8 ≤ mi 59 1) ∧ mi 59 1 ≤ 60
theorem sp32 (hp : qOk mi) {c : Int} (hy : pHit (mi 60) (mi 59 1) (mi 59 8) c c → Q (some (.inl 1)) (mm_ms0 (mm_up mi 59 8 (mi 59 8 + 1)) h)) (hn : ¬ pHit (mi 60) (mi 59 1) (mi 59 8) c c → Q (some (.inl 0)) (mm_ms0 mi h)) : mcl X 32 [.inr (some 59), .inl c] (mm_ms0 mi h) Q := by
  unfold qOk at hp
  rw [c32, b32_0]
  by_cases q1 : mi 59 8 < mi 59 1
  · rw [if_pos q1, b32_11, mm_andT (by omega), b32_20]
    by_cases q2 : mi 60 (mi 59 8).toNat = c
    · rw [if_pos q2, b32_26, mm_wi (by omega) (by omega)]
      exact hy ⟨q1, by omega, by omega⟩
    · rw [if_neg q2, b32_24]
      exact hn (fun z => q2 (by have := z.2; omega))
  · rw [if_neg q1, b32_24]
    exact hn (fun z => q1 z.1)
theorem sp31 (hp : qOk mi) {c : Int} (hc : c ≤ 57) (hy : pHit (mi 60) (mi 59 1) (mi 59 8) 48 c → Q (some (.inl 1)) (mm_ms0 (mm_up (mm_up mi 59 9 (mi 60 (mi 59 8).toNat - 48)) 59 8 (mi 59 8 + 1)) h)) (hn : ¬ pHit (mi 60) (mi 59 1) (mi 59 8) 48 c → Q (some (.inl 0)) (mm_ms0 mi h)) : mcl X 31 [.inr (some 59), .inl c] (mm_ms0 mi h) Q := by
  unfold qOk at hp
  rw [c31, b31_0]
  by_cases q1 : mi 59 8 < mi 59 1
  · rw [if_pos q1, b31_11, mm_andT (by omega), b31_20]
    by_cases q2 : mi 60 (mi 59 8).toNat < 48
    · rw [if_pos q2, b31_38]
      exact hn (fun z => by have := z.2; omega)
    · rw [if_neg q2, b31_25, mm_andT (by omega), b31_34]
      by_cases q3 : c < mi 60 (mi 59 8).toNat
      · rw [if_pos q3, b31_38]
        exact hn (fun z => by have := z.2; omega)
      · rw [if_neg q3, b31_40, mm_andT (by omega), b31_50, mm_wi (z := mi 60 (mi 59 8).toNat - 48) (by omega) (by omega), mm_wi (z := mi 59 8 + 1) (by omega) (by omega)]
        exact hy ⟨q1, by omega, by omega⟩
  · rw [if_neg q1, b31_38]
    exact hn (fun z => q1 z.1)
theorem sp30 (hp : qOk mi) (h0 : (pKey (mi 60) (mi 59 1) (mi 59 8)).1 = none → Q (some (.inl 0)) (mm_ms0 mi h)) (h1 : ∀ v, (pKey (mi 60) (mi 59 1) (mi 59 8)).1 = some v → ∀ m2, qN [8, 9] mi m2 → m2 59 8 = (pKey (mi 60) (mi 59 1) (mi 59 8)).2 → m2 59 9 = v → Q (some (.inl 1)) (mm_ms0 m2 h)) : mcl X 30 [.inr (some 59)] (mm_ms0 mi h) Q := by
  have hp' := hp
  unfold qOk at hp
  unfold pKey at h0 h1
  rw [c30, b30_0]
  refine sp31 hp' (by decide) ?_ ?_
  · intro q1
    rw [if_pos q1] at h0 h1
    rw [mm_psh_i, b30_6, if_neg (by decide), b30_11]
    have hF : qN [8, 9] mi (mm_up (mm_up mi 59 9 (mi 60 (mi 59 8).toNat - 48)) 59 8 (mi 59 8 + 1)) := (qN.rf.up (by decide)).up (by decide)
    have e9 : mm_up (mm_up mi 59 9 (mi 60 (mi 59 8).toNat - 48)) 59 8 (mi 59 8 + 1) 59 9 = mi 60 (mi 59 8).toNat - 48 := by rw [mm_up_at2 (by decide), mm_up_at]
    have e8 : mm_up (mm_up mi 59 9 (mi 60 (mi 59 8).toNat - 48)) 59 8 (mi 59 8 + 1) 59 8 = mi 59 8 + 1 := by rw [mm_up_at]
    generalize mm_up (mm_up mi 59 9 (mi 60 (mi 59 8).toNat - 48)) 59 8 (mi 59 8 + 1) = m1 at hF e9 e8 ⊢
    obtain ⟨e1, e60⟩ := hF.pk (by decide)
    rw [e9]
    by_cases q2 : mi 60 (mi 59 8).toNat - 48 = 0
    · rw [if_pos q2] at h0 h1
      rw [if_pos q2, b30_46]
      exact h1 0 rfl m1 hF e8 (by rw [e9]; exact q2)
    · rw [if_neg q2] at h0 h1
      have hp1 : qOk m1 := by unfold qOk; rw [e8, e1]; have := q1.1; omega
      rw [if_neg q2, b30_20]
      refine sp31 hp1 (by decide) ?_ ?_
      · intro q3
        rw [e60, e1, e8] at q3
        rw [if_pos q3] at h0 h1
        rw [mm_psh_i, b30_27, if_neg (by decide), b30_30]
        have f9 : mm_up (mm_up m1 59 9 (m1 60 (m1 59 8).toNat - 48)) 59 8 (m1 59 8 + 1) 59 9 = mi 60 (mi 59 8 + 1).toNat - 48 := by rw [mm_up_at2 (by decide), mm_up_at, e60, e8]
        have f8 : mm_up (mm_up m1 59 9 (m1 60 (m1 59 8).toNat - 48)) 59 8 (m1 59 8 + 1) 59 8 = mi 59 8 + 2 := by rw [mm_up_at, e8]; omega
        have hF2 : qN [8, 9] mi (mm_up (mm_up m1 59 9 (m1 60 (m1 59 8).toNat - 48)) 59 8 (m1 59 8 + 1)) := (hF.up (by decide)).up (by decide)
        generalize mm_up (mm_up m1 59 9 (m1 60 (m1 59 8).toNat - 48)) 59 8 (m1 59 8 + 1) = m2 at hF2 f9 f8 ⊢
        rw [f9, mm_wi (z := (mi 60 (mi 59 8).toNat - 48) * 10) (by omega) (by omega), mm_wi (by omega) (by omega), b30_43, b30_46]
        exact h1 _ rfl _ (hF2.up (by decide)) (by rw [mm_up_at2 (by decide)]; exact f8) (by rw [mm_up_at]; omega)
      · intro q3
        rw [e60, e1, e8] at q3
        rw [if_neg q3] at h0 h1
        rw [mm_psh_i, b30_27, if_pos rfl, b30_42, b30_43, b30_46]
        exact h1 _ rfl _ (hF.up (by decide)) (by rw [mm_up_at2 (by decide)]; exact e8) (by rw [mm_up_at])
  · intro q1
    rw [if_neg q1] at h0 h1
    rw [mm_psh_i, b30_6, if_pos rfl, b30_9]
    exact h0 rfl
theorem sp29 (hp : qOk mi) (h0 : (pVal (mi 60) (mi 59 1) (mi 59 8)).1 = none → mi 59 8 = (pVal (mi 60) (mi 59 1) (mi 59 8)).2 → Q (some (.inl 0)) (mm_ms0 mi h)) (h1 : ∀ v, (pVal (mi 60) (mi 59 1) (mi 59 8)).1 = some v → ∀ m2, qN [8, 9] mi m2 → m2 59 8 = (pVal (mi 60) (mi 59 1) (mi 59 8)).2 → m2 59 9 = v → Q (some (.inl 1)) (mm_ms0 m2 h)) : mcl X 29 [.inr (some 59)] (mm_ms0 mi h) Q := by
  unfold pVal at h0 h1
  rw [c29, b29_0]
  refine sp32 hp ?_ ?_
  · intro q1
    rw [if_pos q1] at h0 h1
    rw [mm_psh_i, b29_6, if_neg (by decide), b29_9]
    exact h1 (-1) rfl _ ((qN.rf.up (by decide)).up (by decide)) (by rw [mm_up_at2 (by decide), mm_up_at]) (by rw [mm_up_at])
  · intro q1
    rw [if_neg q1] at h0 h1
    rw [mm_psh_i, b29_6, if_pos rfl, b29_16]
    refine sp30 hp ?_ ?_
    · intro z
      rw [mm_psh_i, b29_20]
      exact ⟨Or.inl rfl, h0 z (pKey_none z).symm⟩
    · intro v hv m2 g1 g2 g3
      rw [mm_psh_i, b29_20]
      exact ⟨Or.inr rfl, h1 v hv m2 g1 g2 g3⟩
theorem sp26 (hp : qOk mi) (h0 : (pRow (mi 60) (mi 59 1) (mi 59 8)).1 = none → ∀ m2, qN [3, 4, 8, 9] mi m2 → m2 59 8 = (pRow (mi 60) (mi 59 1) (mi 59 8)).2 → Q (some (.inl 0)) (mm_ms0 m2 h)) (h1 : ∀ t k, (pRow (mi 60) (mi 59 1) (mi 59 8)).1 = some (t, k) → ∀ m2, qN [3, 4, 8, 9] mi m2 → m2 59 8 = (pRow (mi 60) (mi 59 1) (mi 59 8)).2 → m2 59 3 = t → m2 59 4 = k → Q (some (.inl 1)) (mm_ms0 m2 h)) : mcl X 26 [.inr (some 59)] (mm_ms0 mi h) Q := by
  have hp' := hp
  unfold qOk at hp
  unfold pRow at h0 h1
  rw [c26, b26_0]
  refine sp31 hp' (by decide) ?_ ?_
  · intro q1
    rw [if_pos q1] at h0 h1
    rw [mm_psh_i, b26_6, if_neg (by decide), b26_11]
    have e9 : mm_up (mm_up mi 59 9 (mi 60 (mi 59 8).toNat - 48)) 59 8 (mi 59 8 + 1) 59 9 = mi 60 (mi 59 8).toNat - 48 := by rw [mm_up_at2 (by decide), mm_up_at]
    rw [e9]
    have hF : qN [3, 4, 8, 9] mi (mm_up (mm_up (mm_up mi 59 9 (mi 60 (mi 59 8).toNat - 48)) 59 8 (mi 59 8 + 1)) 59 3 (mi 60 (mi 59 8).toNat - 48)) := ((qN.rf.up (by decide)).up (by decide)).up (by decide)
    have e8 : mm_up (mm_up (mm_up mi 59 9 (mi 60 (mi 59 8).toNat - 48)) 59 8 (mi 59 8 + 1)) 59 3 (mi 60 (mi 59 8).toNat - 48) 59 8 = mi 59 8 + 1 := by rw [mm_up_at2 (by decide), mm_up_at]
    have e3 : mm_up (mm_up (mm_up mi 59 9 (mi 60 (mi 59 8).toNat - 48)) 59 8 (mi 59 8 + 1)) 59 3 (mi 60 (mi 59 8).toNat - 48) 59 3 = mi 60 (mi 59 8).toNat - 48 := by rw [mm_up_at]
    generalize mm_up (mm_up (mm_up mi 59 9 (mi 60 (mi 59 8).toNat - 48)) 59 8 (mi 59 8 + 1)) 59 3 (mi 60 (mi 59 8).toNat - 48) = m1 at hF e8 e3 ⊢
    obtain ⟨e1, e60⟩ := hF.pk (by decide)
    have hp1 : qOk m1 := by unfold qOk; rw [e8, e1]; have := q1.1; omega
    refine sp32 hp1 ?_ ?_
    · intro q2
      rw [e60, e1, e8] at q2
      rw [if_pos q2] at h0 h1
      rw [mm_psh_i, b26_25, if_neg (by decide), b26_28]
      have hF2 : qN [3, 4, 8, 9] mi (mm_up m1 59 8 (m1 59 8 + 1)) := hF.up (by decide)
      have f8 : mm_up m1 59 8 (m1 59 8 + 1) 59 8 = mi 59 8 + 2 := by rw [mm_up_at, e8]; omega
      have f3 : mm_up m1 59 8 (m1 59 8 + 1) 59 3 = mi 60 (mi 59 8).toNat - 48 := by rw [mm_up_at2 (by decide)]; exact e3
      generalize mm_up m1 59 8 (m1 59 8 + 1) = m2 at hF2 f8 f3 ⊢
      obtain ⟨g1, g60⟩ := hF2.pk (by decide)
      have hp2 : qOk m2 := by unfold qOk; rw [f8, g1]; have := q2.1; omega
      refine sp30 hp2 ?_ ?_
      · intro z
        rw [g60, g1, f8] at z
        have z2 := pKey_none z
        rw [mm_psh_i, b26_32, if_pos rfl, b26_35]
        refine h0 ?_ m2 hF2 ?_
        · cases hk : pKey (mi 60) (mi 59 1) (mi 59 8 + 2) with
          | mk o a2 =>
            rw [hk] at z
            dsimp only at z
            subst z
            rfl
        · rw [f8]
          cases hk : pKey (mi 60) (mi 59 1) (mi 59 8 + 2) with
          | mk o a2 =>
            rw [hk] at z z2
            dsimp only at z z2
            subst z
            exact z2.symm
      · intro v z m3 k1 k2 k3
        rw [g60, g1, f8] at z k2
        have hF3 : qN [3, 4, 8, 9] mi (mm_up m3 59 4 (m3 59 9)) := (hF2.tr (k1.sub (by decide))).up (by decide)
        rw [mm_psh_i, b26_32, if_neg (by decide), b26_37]
        cases hk : pKey (mi 60) (mi 59 1) (mi 59 8 + 2) with
        | mk o a2 =>
          rw [hk] at z k2 h1
          dsimp only at z k2
          subst z
          refine h1 _ v rfl _ hF3 (by rw [mm_up_at2 (by decide)]; exact k2) ?_ (by rw [mm_up_at]; exact k3)
          rw [mm_up_at2 (by decide), k1.2 3 (by decide)]
          exact f3
    · intro q2
      rw [e60, e1, e8] at q2
      rw [if_neg q2] at h0 h1
      rw [mm_psh_i, b26_25, if_pos rfl, b26_35]
      exact h0 rfl m1 hF e8
  · intro q1
    rw [if_neg q1] at h0 h1
    rw [mm_psh_i, b26_6, if_pos rfl, b26_9]
    exact h0 rfl mi qN.rf rfl
theorem sp27 (hp : qOk mi) (i6 : mi 59 6 = -1) (i7 : mi 59 7 = -1) (h0 : (pIns (mi 60) (mi 59 1) (mi 59 8)).1 = none → ∀ m2, qN [6, 7, 8, 9] mi m2 → m2 59 8 = (pIns (mi 60) (mi 59 1) (mi 59 8)).2 → Q (some (.inl 0)) (mm_ms0 m2 h)) (h1 : ∀ v0 v1, (pIns (mi 60) (mi 59 1) (mi 59 8)).1 = some (v0, v1) → ∀ m2, qN [6, 7, 8, 9] mi m2 → m2 59 8 = (pIns (mi 60) (mi 59 1) (mi 59 8)).2 → m2 59 6 = v0 → m2 59 7 = v1 → Q (some (.inl 1)) (mm_ms0 m2 h)) : mcl X 27 [.inr (some 59)] (mm_ms0 mi h) Q := by
  have hp' := hp
  unfold qOk at hp
  unfold pIns at h0 h1
  rw [c27, b27_0]
  refine sp32 hp' ?_ ?_
  · intro q1
    rw [if_pos q1] at h0 h1
    rw [mm_psh_i, b27_6, if_neg (by decide), b27_11]
    have hF : qN [6, 7, 8, 9] mi (mm_up mi 59 8 (mi 59 8 + 1)) := qN.rf.up (by decide)
    have e8 : mm_up mi 59 8 (mi 59 8 + 1) 59 8 = mi 59 8 + 1 := mm_up_at
    have e7 : mm_up mi 59 8 (mi 59 8 + 1) 59 7 = -1 := by rw [mm_up_at2 (by decide)]; exact i7
    generalize mm_up mi 59 8 (mi 59 8 + 1) = m1 at hF e8 e7 ⊢
    obtain ⟨e1, e60⟩ := hF.pk (by decide)
    have hp1 : qOk m1 := by unfold qOk; rw [e8, e1]; have := q1.1; omega
    obtain ⟨pi1, pi2, pi3⟩ := pVal_in (tx := mi 60) (n := mi 59 1) (a := mi 59 8 + 1) (by have := q1.1; omega)
    cases hv : pVal (mi 60) (mi 59 1) (mi 59 8 + 1) with
    | mk o a2 =>
      rw [hv] at h0 h1 pi1 pi2
      dsimp only at pi1 pi2
      refine sp29 hp1 ?_ ?_
      · intro z z2
        rw [e60, e1, e8, hv] at z z2
        dsimp only at z z2
        subst z
        rw [mm_psh_i, b27_15, if_pos rfl, b27_18]
        exact h0 rfl m1 hF (by rw [e8]; exact z2)
      · intro v z m2 k1 k2 k3
        rw [e60, e1, e8, hv] at z k2
        dsimp only at z k2
        subst z
        dsimp only at h0 h1
        rw [mm_psh_i, b27_15, if_neg (by decide), b27_20, k3]
        have hF2 : qN [6, 7, 8, 9] mi (mm_up m2 59 6 v) := (hF.tr (k1.sub (by decide))).up (by decide)
        have f8 : mm_up m2 59 6 v 59 8 = a2 := by rw [mm_up_at2 (by decide)]; exact k2
        have f6 : mm_up m2 59 6 v 59 6 = v := mm_up_at
        have f7 : mm_up m2 59 6 v 59 7 = -1 := by rw [mm_up_at2 (by decide), k1.2 7 (by decide)]; exact e7
        generalize mm_up m2 59 6 v = m3 at hF2 f8 f6 f7 ⊢
        obtain ⟨g1, g60⟩ := hF2.pk (by decide)
        have hp3 : qOk m3 := by unfold qOk; rw [f8, g1]; omega
        refine sp32 hp3 ?_ ?_
        · intro q2
          rw [g60, g1, f8] at q2
          rw [if_pos q2] at h0 h1
          rw [mm_psh_i, b27_34, if_neg (by decide), b27_39]
          have hF4 : qN [6, 7, 8, 9] mi (mm_up m3 59 8 (m3 59 8 + 1)) := hF2.up (by decide)
          have l8 : mm_up m3 59 8 (m3 59 8 + 1) 59 8 = a2 + 1 := by rw [mm_up_at, f8]
          have l6 : mm_up m3 59 8 (m3 59 8 + 1) 59 6 = v := by rw [mm_up_at2 (by decide)]; exact f6
          generalize mm_up m3 59 8 (m3 59 8 + 1) = m4 at hF4 l8 l6 ⊢
          obtain ⟨y1, y60⟩ := hF4.pk (by decide)
          have hp4 : qOk m4 := by unfold qOk; rw [l8, y1]; have := q2.1; omega
          cases hv2 : pVal (mi 60) (mi 59 1) (a2 + 1) with
          | mk o2 a3 =>
            rw [hv2] at h0 h1
            refine sp29 hp4 ?_ ?_
            · intro z z2
              rw [y60, y1, l8, hv2] at z z2
              dsimp only at z z2
              subst z
              rw [mm_psh_i, b27_43, if_pos rfl, b27_46]
              exact h0 rfl m4 hF4 (by rw [l8]; exact z2)
            · intro v1 z m5 x1 x2 x3
              rw [y60, y1, l8, hv2] at z x2
              dsimp only at z x2
              subst z
              rw [mm_psh_i, b27_43, if_neg (by decide), b27_48, x3]
              refine h1 v v1 rfl _ ((hF4.tr (x1.sub (by decide))).up (by decide)) (by rw [mm_up_at2 (by decide)]; exact x2) ?_ (by rw [mm_up_at])
              rw [mm_up_at2 (by decide), x1.2 6 (by decide)]
              exact l6
        · intro q2
          rw [g60, g1, f8] at q2
          rw [if_neg q2] at h0 h1
          rw [mm_psh_i, b27_34, if_pos rfl, b27_37]
          exact h1 v (-1) rfl m3 hF2 f8 f6 f7
  · intro q1
    rw [if_neg q1] at h0 h1
    rw [mm_psh_i, b27_6, if_pos rfl, b27_9]
    exact h1 (-1) (-1) rfl mi qN.rf rfl i6 i7
theorem sp28 (hp : qOk mi) (h0 : (pCell (mi 60) (mi 59 1) (mi 59 8)).1 = none → ∀ m2, qN [5, 6, 8, 9] mi m2 → m2 59 8 = (pCell (mi 60) (mi 59 1) (mi 59 8)).2 → Q (some (.inl 0)) (mm_ms0 m2 h)) (h1 : ∀ c v, (pCell (mi 60) (mi 59 1) (mi 59 8)).1 = some (c, v) → ∀ m2, qN [5, 6, 8, 9] mi m2 → m2 59 8 = (pCell (mi 60) (mi 59 1) (mi 59 8)).2 → m2 59 5 = c → m2 59 6 = v → Q (some (.inl 1)) (mm_ms0 m2 h)) : mcl X 28 [.inr (some 59)] (mm_ms0 mi h) Q := by
  have hp' := hp
  unfold qOk at hp
  unfold pCell at h0 h1
  rw [c28, b28_0]
  refine sp32 hp' ?_ ?_
  · intro q1
    rw [if_pos q1] at h0 h1
    rw [mm_psh_i, b28_6, if_neg (by decide), b28_9]
    have hF : qN [5, 6, 8, 9] mi (mm_up mi 59 8 (mi 59 8 + 1)) := qN.rf.up (by decide)
    have e8 : mm_up mi 59 8 (mi 59 8 + 1) 59 8 = mi 59 8 + 1 := mm_up_at
    generalize mm_up mi 59 8 (mi 59 8 + 1) = m1 at hF e8 ⊢
    obtain ⟨e1, e60⟩ := hF.pk (by decide)
    have hp1 : qOk m1 := by unfold qOk; rw [e8, e1]; have := q1.1; omega
    refine sp31 hp1 (by decide) ?_ ?_
    · intro q2
      rw [e60, e1, e8] at q2
      rw [if_pos q2] at h0 h1
      rw [mm_psh_i, b28_15, if_neg (by decide), b28_20]
      have x9 : mm_up (mm_up m1 59 9 (m1 60 (m1 59 8).toNat - 48)) 59 8 (m1 59 8 + 1) 59 9 = mi 60 (mi 59 8 + 1).toNat - 48 := by rw [mm_up_at2 (by decide), mm_up_at, e60, e8]
      rw [x9]
      have hF2 : qN [5, 6, 8, 9] mi (mm_up (mm_up (mm_up m1 59 9 (m1 60 (m1 59 8).toNat - 48)) 59 8 (m1 59 8 + 1)) 59 5 (mi 60 (mi 59 8 + 1).toNat - 48)) := ((hF.up (by decide)).up (by decide)).up (by decide)
      have f8 : mm_up (mm_up (mm_up m1 59 9 (m1 60 (m1 59 8).toNat - 48)) 59 8 (m1 59 8 + 1)) 59 5 (mi 60 (mi 59 8 + 1).toNat - 48) 59 8 = mi 59 8 + 2 := by rw [mm_up_at2 (by decide), mm_up_at, e8]; omega
      have f5 : mm_up (mm_up (mm_up m1 59 9 (m1 60 (m1 59 8).toNat - 48)) 59 8 (m1 59 8 + 1)) 59 5 (mi 60 (mi 59 8 + 1).toNat - 48) 59 5 = mi 60 (mi 59 8 + 1).toNat - 48 := mm_up_at
      generalize mm_up (mm_up (mm_up m1 59 9 (m1 60 (m1 59 8).toNat - 48)) 59 8 (m1 59 8 + 1)) 59 5 (mi 60 (mi 59 8 + 1).toNat - 48) = m2 at hF2 f8 f5 ⊢
      obtain ⟨g1, g60⟩ := hF2.pk (by decide)
      have hp2 : qOk m2 := by unfold qOk; rw [f8, g1]; have := q2.1; omega
      refine sp32 hp2 ?_ ?_
      · intro q3
        rw [g60, g1, f8] at q3
        rw [if_pos q3] at h0 h1
        rw [mm_psh_i, b28_34, if_neg (by decide), b28_37]
        have hF3 : qN [5, 6, 8, 9] mi (mm_up m2 59 8 (m2 59 8 + 1)) := hF2.up (by decide)
        have l8 : mm_up m2 59 8 (m2 59 8 + 1) 59 8 = mi 59 8 + 3 := by rw [mm_up_at, f8]; omega
        have l5 : mm_up m2 59 8 (m2 59 8 + 1) 59 5 = mi 60 (mi 59 8 + 1).toNat - 48 := by rw [mm_up_at2 (by decide)]; exact f5
        generalize mm_up m2 59 8 (m2 59 8 + 1) = m3 at hF3 l8 l5 ⊢
        obtain ⟨y1, y60⟩ := hF3.pk (by decide)
        have hp3 : qOk m3 := by unfold qOk; rw [l8, y1]; have := q3.1; omega
        cases hv : pVal (mi 60) (mi 59 1) (mi 59 8 + 3) with
        | mk o a2 =>
          rw [hv] at h0 h1
          refine sp29 hp3 ?_ ?_
          · intro z z2
            rw [y60, y1, l8, hv] at z z2
            dsimp only at z z2
            subst z
            rw [mm_psh_i, b28_41, if_pos rfl, b28_44]
            exact h0 rfl m3 hF3 (by rw [l8]; exact z2)
          · intro v z m4 k1 k2 k3
            rw [y60, y1, l8, hv] at z k2
            dsimp only at z k2
            subst z
            rw [mm_psh_i, b28_41, if_neg (by decide), b28_46, k3]
            refine h1 _ v rfl _ ((hF3.tr (k1.sub (by decide))).up (by decide)) (by rw [mm_up_at2 (by decide)]; exact k2) ?_ (by rw [mm_up_at])
            rw [mm_up_at2 (by decide), k1.2 5 (by decide)]
            exact l5
      · intro q3
        rw [g60, g1, f8] at q3
        rw [if_neg q3] at h0 h1
        rw [mm_psh_i, b28_34, if_pos rfl, b28_44]
        exact h0 rfl m2 hF2 f8
    · intro q2
      rw [e60, e1, e8] at q2
      rw [if_neg q2] at h0 h1
      rw [mm_psh_i, b28_15, if_pos rfl, b28_18]
      exact h0 rfl m1 hF e8
  · intro q1
    rw [if_neg q1] at h0 h1
    rw [mm_psh_i, b28_6, if_pos rfl, b28_18]
    exact h0 rfl mi qN.rf rfl
end CSC
