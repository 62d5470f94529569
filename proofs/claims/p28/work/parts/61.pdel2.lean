-- A DELETION, pure: the block behind it
section PE
variable {B : Int → Int} {x : Int}
theorem kDelC_lo {z : Int} (h3 : z ≠ 3) (h4 : z ≠ 4) (h5 : z ≠ 5) : kDelC B x z = kChg B (gMk B x) (gR B) z := by
  unfold kDelC
  rw [bUp_ne h5, bUp_ne h3, bUp_ne h4]
theorem kDel_at (hI : bInv B) (hx : 0 ≤ x ∧ x < 600) (hc : 0 ≤ kCe B x) : (∀ z, z < 78 → z ≠ 3 → z ≠ 4 → z ≠ 5 → kDel B x z = B z) ∧ kDel B x 3 = mm_w (B 3 + (kOut B x).length) ∧ kDel B x 4 = mm_w (B 4 + kChgN B (gMk B x) (gR B)) ∧ kDel B x 5 = (kOut B x).length ∧
    (∀ i : Nat, i < (kOut B x).length → kDel B x (78 + i) = gAt (kOut B x) i) ∧ ∀ y, 0 ≤ y → kCe (kDel B x) y = if y ∈ kOut B x then -1 else kCe (kChg B (gMk B x) (gR B)) y := by
  obtain ⟨o1, o2⟩ := kOut_in hI.1 hI.ok.2.2 hx hc
  obtain ⟨d1, d2, d3⟩ := kDelN_at (B := kDelC B x) o1 (fun y hy => (o2 y hy).1) _ (Nat.le_refl _)
  have hs := (kChg_wr (mk := gMk B x) hI.1 _ (Nat.le_refl _)).2
  refine ⟨fun z h1 h3 h4 h5 => ?_, ?_, ?_, ?_, d2, fun y hy => ?_⟩
  · rw [show kDel B x z = kDelC B x z from d1 z h1, kDelC_lo h3 h4 h5]
    exact hs z (by omega)
  · rw [show kDel B x 3 = kDelC B x 3 from d1 3 (by decide)]
    unfold kDelC
    rw [bUp_ne (by decide), bUp_at]
  · rw [show kDel B x 4 = kDelC B x 4 from d1 4 (by decide)]
    unfold kDelC
    rw [bUp_ne (by decide), bUp_ne (by decide), bUp_at]
  · rw [show kDel B x 5 = kDelC B x 5 from d1 5 (by decide)]
    unfold kDelC
    rw [bUp_at]
  · rw [show kCe (kDel B x) y = if y ∈ (kOut B x).take (kOut B x).length then -1 else kCe (kDelC B x) y from d3 y hy, List.take_length]
    by_cases q : y ∈ kOut B x
    · rw [if_pos q, if_pos q]
    · rw [if_neg q, if_neg q]
      exact kDelC_lo (by omega) (by omega) (by omega)
theorem bInv_del (hI : bInv B) (hx : 0 ≤ x ∧ x < 600) (hc : 0 ≤ kCe B x) : bInv (kDel B x) := by
  obtain ⟨a1, a2, a3, a4, a5, a6⟩ := kDel_at hI hx hc
  obtain ⟨o1, o2⟩ := kOut_in hI.1 hI.ok.2.2 hx hc
  have hw := (kChg_wr (mk := gMk B x) hI.1 _ (Nat.le_refl _)).1
  have hv := (kChg_val (mk := gMk B x) hI _ (Nat.le_refl _)).1
  refine hI.co (a1 0 (by decide) (by decide) (by decide) (by decide)) (a1 1 (by decide) (by decide) (by decide) (by decide)) (fun z h1 h2 => a1 z h2 (by omega) (by omega) (by omega)) (fun y h1 h2 => ?_) (hI.2.2.2.2.1.less (a1 0 (by decide) (by decide) (by decide) (by decide)) (fun y h1 h2 => ?_) hI.1.1.1) (by rw [a4]; omega)
  · rw [a6 y h1]
    split
    · omega
    · exact hw.2.2.2 y h1 h2
  · rw [a6 y h1]
    split
    · omega
    · exact (hv y h1 h2).mp
theorem bFk_del (hI : bInv B) (hF : bFk B) (hx : 0 ≤ x ∧ x < 600) (hc : 0 ≤ kCe B x) (hn : kWhich B x = none) : bFk (kDel B x) := by
  obtain ⟨a1, a2, a3, a4, a5, a6⟩ := kDel_at hI hx hc
  obtain ⟨v1, v2⟩ := kChg_val (mk := gMk B x) hI _ (Nat.le_refl _)
  have hs := (kChg_wr (mk := gMk B x) hI.1 _ (Nat.le_refl _)).2
  have w1 := hI.1.2.1
  have mk0 : ∀ y, y ∉ kOut B x → gMk B x y = 0 := fun y hy => Classical.byContradiction (fun z => hy ((gMk_iff hI.1 hI.ok.2.2 hx hc y).mp z))
  have mk1 : ∀ y, gMk B x y = 0 → y ∉ kOut B x := fun y hy z => ((gMk_iff hI.1 hI.ok.2.2 hx hc y).mpr z) hy
  have left : ∀ y, 0 ≤ y → y < 600 → 0 ≤ kCe B y → gMk B x y = 0 → 0 ≤ kCe (kDel B x) y := by
    intro y h1 h2 h3 h4
    rw [a6 y h1, if_neg (mk1 y h4)]
    exact (v1 y h1 h2).mpr h3
  intro e he hrow hval
  have hg : gR (kDel B x) = gR B := by unfold gR; rw [a1 1 (by decide) (by decide) (by decide) (by decide)]
  rw [hg] at he
  obtain ⟨hch, hr, hk, hcc, hne, hv, t1, t2⟩ := g_at hI.1 he
  have of : ∀ w : Int, 0 ≤ w → w < 6 → kOf (kDel B x) ((e / 100 : Nat) : Int) w = kOf B ((e / 100 : Nat) : Int) w := fun w h1 h2 => by
    unfold kOf
    exact a1 (6 + 6 * ((e / 100 : Nat) : Int) + w) (by omega) (by omega) (by omega) (by omega)
  have ech : gCh (kDel B x) e = gCh B e := by unfold gCh; rw [of 0 (by decide) (by decide)]
  have hrow' : 0 ≤ kCe (kDel B x) (gCh B e) := by rw [← ech]; exact hrow
  rw [a6 _ hch.1] at hrow'
  by_cases qo : gCh B e ∈ kOut B x
  · rw [if_pos qo] at hrow'
    omega
  · rw [if_neg qo] at hrow'
    have row : gRow B e := (v1 _ hch.1 hch.2).mp hrow'
    have mch := mk0 _ qo
    have ev : gVal (kDel B x) e = if gHitU B (gMk B x) e then gNew B e else gVal B e := by
      have g1 : gVal (kDel B x) e = gVal (kChg B (gMk B x) (gR B)) e := by
        show kV (kDel B x) (gCh (kDel B x) e) (kOf (kDel B x) _ 2) = kV _ (gCh _ e) (kOf _ _ 2)
        rw [ech, of 2 (by decide) (by decide), hs.ch hI.1 he, hs.of (by omega)]
        unfold kV
        rw [a6 _ hch.1, if_neg qo]
      rw [g1, v2 e he row]
      by_cases q : gHitU B (gMk B x) e
      · rw [if_pos ⟨he, q⟩, if_pos q]
      · rw [if_neg (fun z => q z.2), if_neg q]
    have ep : gPar (kDel B x) e = 100 * kOf B ((e / 100 : Nat) : Int) 1 + gVal (kDel B x) e := by
      show 100 * kOf (kDel B x) _ 1 + gVal (kDel B x) e = _
      rw [of 1 (by decide) (by decide)]
    rw [ep]
    have hp0 := hk.2.1
    have w0 := hI.1.1
    by_cases q : gHitU B (gMk B x) e
    · rw [if_pos q] at ev
      rw [ev] at hval ⊢
      have hnb : gBad B (gMk B x) e = false := by
        have key : ∀ d n, n + d = gR B → fnx (gBad B (gMk B x)) (gR B) n = none → ∀ j, n ≤ j → j < gR B → gBad B (gMk B x) j = false := by
          intro d
          induction d with
          | zero => intro n h1 _ j h2 h3; omega
          | succ d ih =>
            intro n h1 h2 j h3 h4
            cases hb : gBad B (gMk B x) n with
            | true => rw [fnx_self (by omega) hb] at h2; cases h2
            | false =>
              rw [fnx_next (by omega) hb] at h2
              by_cases z : j = n
              · rw [z]; exact hb
              · exact ih (n + 1) (by omega) h2 j (by omega) h4
        exact key (gR B) 0 (by omega) hn e (Nat.zero_le _) he
      have hw : ¬ 0 < gWhy B (gMk B x) e := fun z => by
        have := of_decide_eq_false hnb
        exact this ⟨q.1, z⟩
      unfold gWhy kWhy at hw
      have hne2 : gCh B e ≠ gPar B e := fun z => by
        have := q.1.2.2
        rw [← z] at this
        exact this mch
      by_cases r0 : kOf B ((e / 100 : Nat) : Int) 3 = 0
      · rw [if_pos r0, if_neg hne2] at hw
        omega
      · rw [if_neg r0, if_neg (fun z => z mch)] at hw
        by_cases r1 : kOf B ((e / 100 : Nat) : Int) 3 = 1
        · rw [if_pos r1] at hw
          omega
        · rw [if_neg r1] at hw
          by_cases r3 : kOf B ((e / 100 : Nat) : Int) 3 = 3
          · exact absurd (by unfold gNew; rw [if_pos r3]) hval
          · by_cases r5 : kOf B ((e / 100 : Nat) : Int) 5 = -1
            · exact absurd (by unfold gNew; rw [if_neg r3]; exact r5) hval
            · rw [if_neg (fun z => z.elim r3 r5)] at hw
              have hd := hk.2.2.2.2.2
              have gn : gNew B e = kOf B ((e / 100 : Nat) : Int) 5 := by unfold gNew; rw [if_neg r3]
              rw [gn]
              by_cases z : kCe B (100 * kOf B ((e / 100 : Nat) : Int) 1 + kOf B ((e / 100 : Nat) : Int) 5) < 0 ∨ gMk B x (100 * kOf B ((e / 100 : Nat) : Int) 1 + kOf B ((e / 100 : Nat) : Int) 5) ≠ 0
              · rw [if_pos z] at hw
                omega
              · exact left _ (by omega) (by omega) (by omega) (Classical.byContradiction (fun y => z (Or.inr y)))
    · rw [if_neg q] at ev
      rw [ev] at hval ⊢
      have hp := (hv row).2 hval
      refine left _ hp.1 hp.2 (hF e he row hval) (Classical.byContradiction (fun y => q ⟨⟨row, hval, y⟩, mch⟩))
end PE
