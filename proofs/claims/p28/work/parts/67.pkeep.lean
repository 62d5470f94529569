def kBadA (r : Int) : Prop := r < -1 ∧ r ≠ -9
-- WHAT A STATEMENT DOES keeps the invariants (pure)
section PK
variable {B : Int → Int}
theorem kLay_same {x c : Int} (hc : c = 0 ∨ c = 1) : kLay B x c (kV B x c) = kCe B x := by
  unfold kLay kV
  rcases hc with rfl | rfl
  · rw [if_pos rfl, if_pos rfl, if_neg (by decide)]
    omega
  · rw [if_neg (by decide), if_pos rfl, if_neg (by decide)]
    omega
theorem bUp_same {w : Int} : bUp B w (B w) = B := by
  funext z
  unfold bUp
  split
  · rename_i q; rw [q]
  · rfl
theorem kUpd_same (hI : bInv B) {t k c v : Int} (h9 : (kUpd B t k c v).1 = -9) : (kUpd B t k c v).2 = B := by
  unfold kUpd at h9 ⊢
  by_cases q1 : kIsRow B t k ∧ 0 ≤ c ∧ c ≤ kCols B t - 1
  · rw [if_neg (fun z => z q1)] at h9 ⊢
    by_cases q2 : -1 ≤ v ∧ v ≤ 99
    · rw [if_neg (fun z => z q2)] at h9 ⊢
      by_cases q3 : v = -1 ∧ kNeed B t c
      · rw [if_pos q3]
      · rw [if_neg q3] at h9 ⊢
        by_cases q4 : v ≠ -1 ∧ ¬ kHasP B t c v
        · rw [if_pos q4]
        · rw [if_neg q4] at h9 ⊢
          have hx : 0 ≤ 100 * t + k ∧ 100 * t + k < 600 := by
            have := hI.1.1
            have := q1.1.1
            have := q1.1.2.1
            omega
          have hv := kV_in2 (c := c) ⟨q1.1.2.2, (hI.1.2.2.2 _ hx.1 hx.2).2⟩
          have hc2 := hI.2.1 t
          by_cases q5 : kV B (100 * t + k) c = v
          · show bUp B (198 + (100 * t + k)) (kLay B (100 * t + k) c v) = B
            rw [← q5, kLay_same (by omega)]
            exact bUp_same
          · rw [if_neg q5] at h9
            dsimp only at h9
            omega
    · rw [if_pos q2]
  · rw [if_pos q1]
theorem kIns_good {t k v0 v1 : Int} (hI : bInv B) (h : ¬ kBadA (kIns B t k v0 v1).1) : cInsOk B t k v0 v1 := by
  unfold kIns kBadA at h
  by_cases q1 : 0 ≤ t ∧ t < B 0
  · rw [if_pos q1] at h
    by_cases q2 : kOutR B t k v0 v1
    · rw [if_pos q2] at h
      exact absurd ⟨by dsimp only; decide, by dsimp only; decide⟩ h
    · rw [if_neg q2] at h
      by_cases q3 : kNoRow B t k
      · rw [if_pos q3] at h
        by_cases q4 : kRows B t = 20
        · rw [if_pos q4] at h
          exact absurd ⟨by dsimp only; decide, by dsimp only; decide⟩ h
        · rw [if_neg q4] at h
          by_cases q5 : kMiss B t v0 v1
          · rw [if_pos q5] at h
            exact absurd ⟨by dsimp only; decide, by dsimp only; decide⟩ h
          · rw [if_neg q5] at h
            by_cases q6 : kNoP (kInsB B (100 * t + k) v0 v1) t v0 v1
            · rw [if_pos q6] at h
              exact absurd ⟨by dsimp only; decide, by dsimp only; decide⟩ h
            · have := hI.2.2.2.2.1.1 t.toNat (by have := hI.1.1; omega)
              rw [show ((t.toNat : Nat) : Int) = t by omega] at this
              exact ⟨q1, q2, q3, by omega, q5, q6⟩
      · rw [if_neg q3] at h
        exact absurd ⟨by dsimp only; decide, by dsimp only; decide⟩ h
  · rw [if_neg q1] at h
    exact absurd ⟨by dsimp only; decide, by dsimp only; decide⟩ h
theorem kUpd_good {t k c v : Int} (h : ¬ kBadA (kUpd B t k c v).1) : (kIsRow B t k ∧ 0 ≤ c ∧ c ≤ kCols B t - 1) ∧ (-1 ≤ v ∧ v ≤ 99) ∧ ¬ (v = -1 ∧ kNeed B t c) ∧ ¬ (v ≠ -1 ∧ ¬ kHasP B t c v) ∧ (kUpd B t k c v).2 = bUp B (198 + (100 * t + k)) (kLay B (100 * t + k) c v) := by
  unfold kUpd kBadA at h
  unfold kUpd
  by_cases q1 : kIsRow B t k ∧ 0 ≤ c ∧ c ≤ kCols B t - 1
  · rw [if_neg (fun z => z q1)] at h ⊢
    by_cases q2 : -1 ≤ v ∧ v ≤ 99
    · rw [if_neg (fun z => z q2)] at h ⊢
      by_cases q3 : v = -1 ∧ kNeed B t c
      · rw [if_pos q3] at h
        exact absurd ⟨by dsimp only; decide, by dsimp only; decide⟩ h
      · rw [if_neg q3] at h ⊢
        by_cases q4 : v ≠ -1 ∧ ¬ kHasP B t c v
        · rw [if_pos q4] at h
          exact absurd ⟨by dsimp only; decide, by dsimp only; decide⟩ h
        · rw [if_neg q4]
          exact ⟨q1, q2, q3, q4, rfl⟩
    · rw [if_pos q2] at h
      exact absurd ⟨by dsimp only; decide, by dsimp only; decide⟩ h
  · rw [if_pos q1] at h
    exact absurd ⟨by dsimp only; decide, by dsimp only; decide⟩ h
theorem kDele_good {t k : Int} (h : ¬ kBadA (kDele B t k).1) : kIsRow B t k ∧ kWhich B (100 * t + k) = none ∧ kDele B t k = (((kOut B (100 * t + k)).length : Int), kDel B (100 * t + k)) := by
  unfold kDele kBadA at h
  unfold kDele
  by_cases q1 : kIsRow B t k
  · rw [if_pos q1] at h ⊢
    cases hw : kWhich B (100 * t + k) with
    | none =>
      exact ⟨q1, rfl, rfl⟩
    | some e =>
      rw [hw] at h
      exact absurd ⟨by dsimp only; decide, by dsimp only; decide⟩ h
  · rw [if_neg q1] at h
    exact absurd ⟨by dsimp only; decide, by dsimp only; decide⟩ h
theorem kIns_keep {t k v0 v1 : Int} (hI : bInv B) (hF : bFk B) (hk : cInsOk B t k v0 v1) : bInv (kIns B t k v0 v1).2 ∧ bFk (kIns B t k v0 v1).2 := by
  rw [kIns_ok hk]
  dsimp only
  obtain ⟨q1, q2, q3, q4, q5, q6⟩ := hk
  have q2' : (0 ≤ k ∧ k ≤ 99) ∧ (-1 ≤ v0 ∧ v0 ≤ if 0 < kCols B t then 99 else -1) ∧ (-1 ≤ v1 ∧ v1 ≤ if 1 < kCols B t then 99 else -1) := Classical.byContradiction (fun z => q2 z)
  have hk := q2'.1
  have hv0 : -1 ≤ v0 ∧ v0 ≤ 99 := ⟨q2'.2.1.1, le_99 q2'.2.1.2⟩
  have hv1 : -1 ≤ v1 ∧ v1 ≤ 99 := ⟨q2'.2.2.1, le_99 q2'.2.2.2⟩
  have hno : kCe B (100 * t + k) < 0 := by
    by_cases z : 0 ≤ kCe B (100 * t + k)
    · exact absurd ⟨q1, by omega, z⟩ q3
    · omega
  have w0 := hI.1.1
  have w1 := hI.1.2.1
  have hx : 0 ≤ 100 * t + k ∧ 100 * t + k < 600 := by omega
  have hb2 : bInv (bUp (kInsB B (100 * t + k) v0 v1) 2 (mm_w (B 2 + 1))) := hI.ins (v := 101 * (v0 + 1) + v1 + 1) q1 (by omega) (by omega) hno q4 (fun z hz => bUp_ne hz)
  refine ⟨hb2, ?_⟩
  have hs : kSame B (kInsB B (100 * t + k) v0 v1) := kSame.up hx.1
  have ce1 : ∀ y, kCe (kInsB B (100 * t + k) v0 v1) y = if y = 100 * t + k then 101 * (v0 + 1) + v1 + 1 else kCe B y := fun y => kCe_up
  have lo : ∀ z, z ≠ 2 → z < 198 → bUp (kInsB B (100 * t + k) v0 v1) 2 (mm_w (B 2 + 1)) z = B z := fun z h1 h2 => by
    rw [bUp_ne h1]; exact bUp_lo hx.1 h2
  have ce : ∀ y, 0 ≤ y → kCe (bUp (kInsB B (100 * t + k) v0 v1) 2 (mm_w (B 2 + 1))) y = if y = 100 * t + k then 101 * (v0 + 1) + v1 + 1 else kCe B y := fun y hy => by
    rw [← ce1]; exact bUp_ne (by omega)
  generalize bUp (kInsB B (100 * t + k) v0 v1) 2 (mm_w (B 2 + 1)) = B2 at hb2 lo ce ⊢
  have stay : ∀ y, 0 ≤ y → 0 ≤ kCe B y → 0 ≤ kCe B2 y := by
    intro y h1 h2
    rw [ce y h1]
    split <;> omega
  intro e he hrow hv
  have hg : gR B2 = gR B := by unfold gR; rw [lo 1 (by decide) (by decide)]
  rw [hg] at he
  obtain ⟨g1, g2, g3, g4, g5, g6, g7, g8⟩ := g_at hI.1 he
  have of : ∀ w : Int, 0 ≤ w → w < 6 → kOf B2 ((e / 100 : Nat) : Int) w = kOf B ((e / 100 : Nat) : Int) w := fun w h1 h2 => lo _ (by omega) (by omega)
  have ech : gCh B2 e = gCh B e := by unfold gCh; rw [of 0 (by decide) (by decide)]
  have ev : gVal B2 e = kV B2 (gCh B e) (kOf B ((e / 100 : Nat) : Int) 2) := by
    show kV B2 (gCh B2 e) (kOf B2 _ 2) = _
    rw [ech, of 2 (by decide) (by decide)]
  have ep : gPar B2 e = 100 * kOf B ((e / 100 : Nat) : Int) 1 + gVal B2 e := by
    show 100 * kOf B2 _ 1 + gVal B2 e = _
    rw [of 1 (by decide) (by decide)]
  by_cases q : gCh B e = 100 * t + k
  · have d1 : gCh B e = 100 * kOf B ((e / 100 : Nat) : Int) 0 + ((e % 100 : Nat) : Int) := rfl
    have t1 : kOf B ((e / 100 : Nat) : Int) 0 = t := by omega
    have u := hI.2.2.2.1.2 (e / 100) g2
    have ro := kRo_at hI g2
    rw [t1] at u ro
    have hro : kRo (kInsB B (100 * t + k) v0 v1) t (kOf B ((e / 100 : Nat) : Int) 2) = ((e / 100 : Nat) : Int) := by rw [hs.ro w1.2, ro]
    have hcol := g3.2.2.1
    have hpr := g3.2.1
    rw [ep]
    have vv : gVal B2 e = (if kOf B ((e / 100 : Nat) : Int) 2 = 0 then v0 else v1) := by
      rw [ev]
      unfold kV
      rw [ce _ g1.1, if_pos q]
      split <;> omega
    have par : ∀ c v, c = kOf B ((e / 100 : Nat) : Int) 2 → v = gVal B2 e → kHasP (kInsB B (100 * t + k) v0 v1) t c v → 0 ≤ kCe B2 (100 * kOf B ((e / 100 : Nat) : Int) 1 + gVal B2 e) := by
      intro c v hc hv2 hp
      have hp' : kIsRow (kInsB B (100 * t + k) v0 v1) (kOf (kInsB B (100 * t + k) v0 v1) (kRo (kInsB B (100 * t + k) v0 v1) t c) 1) v := hp
      rw [hc, hro, hs.of (by omega), hv2] at hp'
      have h3 := hp'.2.2
      have h2 := hp'.2.1
      rw [ce1] at h3
      rw [ce _ (by omega)]
      exact h3
    by_cases c0 : kOf B ((e / 100 : Nat) : Int) 2 = 0
    · rw [if_pos c0] at vv
      refine par 0 v0 c0.symm vv.symm (Classical.byContradiction (fun z => q6 (Or.inl ⟨by rw [← vv]; exact hv, z⟩)))
    · rw [if_neg c0] at vv
      refine par 1 v1 (by omega) vv.symm (Classical.byContradiction (fun z => q6 (Or.inr ⟨by rw [← vv]; exact hv, z⟩)))
  · have row : gRow B e := by
      have : 0 ≤ kCe B2 (gCh B2 e) := hrow
      rw [ech, ce _ g1.1, if_neg q] at this
      exact this
    have vv : gVal B2 e = gVal B e := by
      rw [ev]
      show kV B2 (gCh B e) _ = kV B (gCh B e) _
      unfold kV
      rw [ce _ g1.1, if_neg q]
    rw [vv] at hv
    have hp := (g6 row).2 hv
    rw [ep, vv]
    exact stay _ hp.1 (hF e he row hv)
theorem kUpd_keep {t k c v : Int} (hI : bInv B) (hF : bFk B) (h1 : kIsRow B t k ∧ 0 ≤ c ∧ c ≤ kCols B t - 1) (h2 : -1 ≤ v ∧ v ≤ 99) (h4 : ¬ (v ≠ -1 ∧ ¬ kHasP B t c v)) : bInv (bUp B (198 + (100 * t + k)) (kLay B (100 * t + k) c v)) ∧ bFk (bUp B (198 + (100 * t + k)) (kLay B (100 * t + k) c v)) := by
  have w0 := hI.1.1
  have w1 := hI.1.2.1
  have hx : 0 ≤ 100 * t + k ∧ 100 * t + k < 600 := by
    have := h1.1.1
    have := h1.1.2.1
    omega
  have hce := h1.1.2.2
  have hrg : 0 ≤ kCe B (100 * t + k) ∧ kCe B (100 * t + k) ≤ 10200 := ⟨hce, (hI.1.2.2.2 _ hx.1 hx.2).2⟩
  have hc2 := hI.2.1 t
  have hc01 : c = 0 ∨ c = 1 := by omega
  have hl := kLay_in (c := c) hrg h2
  have hs : kSame B (bUp B (198 + (100 * t + k)) (kLay B (100 * t + k) c v)) := kSame.up hx.1
  refine ⟨hI.up hx (by omega) (Or.inl hce), ?_⟩
  have stay : ∀ y, 0 ≤ kCe B y ↔ 0 ≤ kCe (bUp B (198 + (100 * t + k)) (kLay B (100 * t + k) c v)) y := by
    intro y
    rw [kCe_up]
    split
    · rename_i z
      rw [z]
      exact ⟨fun _ => hl.1, fun _ => hce⟩
    · exact Iff.rfl
  intro e he hrow hv
  rw [hs.R] at he
  obtain ⟨g1, g2, g3, g4, g5, g6, g7, g8⟩ := g_at hI.1 he
  have ech := hs.ch hI.1 he
  have row : gRow B e := by
    have : 0 ≤ kCe (bUp B (198 + (100 * t + k)) (kLay B (100 * t + k) c v)) (gCh (bUp B (198 + (100 * t + k)) (kLay B (100 * t + k) c v)) e) := hrow
    rw [ech] at this
    exact (stay _).mpr this
  have hcol := g3.2.2.1
  have ev : gVal (bUp B (198 + (100 * t + k)) (kLay B (100 * t + k) c v)) e = if gCh B e = 100 * t + k ∧ kOf B ((e / 100 : Nat) : Int) 2 = c then v else gVal B e := by
    show kV _ (gCh _ e) (kOf _ _ 2) = _
    rw [ech, hs.of (by omega), kV_lay hc01 (by omega) h2 hrg]
  have ep : gPar (bUp B (198 + (100 * t + k)) (kLay B (100 * t + k) c v)) e = 100 * kOf B ((e / 100 : Nat) : Int) 1 + gVal (bUp B (198 + (100 * t + k)) (kLay B (100 * t + k) c v)) e := by
    show 100 * kOf _ _ 1 + _ = _
    rw [hs.of (by omega)]
  rw [ep]
  refine (stay _).mp ?_
  by_cases q : gCh B e = 100 * t + k ∧ kOf B ((e / 100 : Nat) : Int) 2 = c
  · rw [if_pos q] at ev
    rw [ev] at hv ⊢
    have d1 : gCh B e = 100 * kOf B ((e / 100 : Nat) : Int) 0 + ((e % 100 : Nat) : Int) := rfl
    have hk := h1.1.2.1
    have t1 : kOf B ((e / 100 : Nat) : Int) 0 = t := by omega
    have ro := kRo_at hI g2
    rw [t1, q.2] at ro
    have hp : kIsRow B (kOf B (kRo B t c) 1) v := Classical.byContradiction (fun z => h4 ⟨hv, z⟩)
    rw [ro] at hp
    exact hp.2.2
  · rw [if_neg q] at ev
    rw [ev] at hv ⊢
    exact hF e he row hv
theorem kDele_keep {t k : Int} (hI : bInv B) (hF : bFk B) (h1 : kIsRow B t k) (h2 : kWhich B (100 * t + k) = none) : bInv (kDel B (100 * t + k)) ∧ bFk (kDel B (100 * t + k)) := by
  have w0 := hI.1.1
  have hx : 0 ≤ 100 * t + k ∧ 100 * t + k < 600 := by
    have := h1.1
    have := h1.2.1
    omega
  exact ⟨bInv_del hI hx h1.2.2, bFk_del hI hF hx h1.2.2 h2⟩
def bAll (B : Int → Int) : Prop := bInv B ∧ bFk B
end PK
