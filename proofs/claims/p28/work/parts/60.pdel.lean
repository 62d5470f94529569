-- A DELETION, pure: what is marked, what changes, what is left
section PD
variable {B mk : Int → Int}
theorem gRes_nil {x : Int} (hW : kWr B) (hE : (gEx B).length ≤ 120) (hx : 0 ≤ x ∧ x < 600) (hc : 0 ≤ kCe B x) : (gRes B x).1 = [] :=
  gIt_end hW hE 240 _ (gIni_inv hx hc) (by show 2 * (120 - (1 + 0)) + 1 ≤ 240; omega)
/-- marked is gathered -/
theorem gMk_iff {x : Int} (hW : kWr B) (hE : (gEx B).length ≤ 120) (hx : 0 ≤ x ∧ x < 600) (hc : 0 ≤ kCe B x) (z : Int) : gMk B x z ≠ 0 ↔ z ∈ kOut B x := by
  have h1 := (gRes_inv hW hx hc).2.2.1 z
  unfold gAll at h1
  rw [gRes_nil hW hE hx hc] at h1
  rw [show gMk B x z ≠ 0 ↔ (gRes B x).2.1 z = true from by unfold gMk; split <;> simp_all]
  rw [h1]
  exact ⟨fun q => by simpa [kOut] using q, fun q => by simpa [kOut] using q⟩
theorem kOut_nodup {x : Int} (hW : kWr B) (hx : 0 ≤ x ∧ x < 600) (hc : 0 ≤ kCe B x) : (kOut B x).Nodup := by
  have h1 := (gRes_inv hW hx hc).2.1
  unfold gAll at h1
  exact (List.nodup_append.mp h1).2.1
/-- a cascade's child of what is gathered is gathered -/
theorem gMk_casc {x : Int} (hW : kWr B) (hE : (gEx B).length ≤ 120) (hx : 0 ≤ x ∧ x < 600) (hc : 0 ≤ kCe B x) {e : Nat} (he : e < gR B) (hh : gHit B (gMk B x) e) (h2 : kOf B ((e / 100 : Nat) : Int) 3 = 2) : gMk B x (gCh B e) ≠ 0 := by
  obtain ⟨hch, hr, hk, hcc, hne, hv, t1, t2⟩ := g_at hW he
  obtain ⟨a1, a2, a3⟩ := hh
  have hp := (hv a1).2 a2
  have hv1 := (hv a1).1
  have h5 := (gRes_inv hW hx hc).2.2.2.2 (gPar B e) ((gMk_iff hW hE hx hc _).mp a3) e he ?_
  · unfold gMk
    rw [if_pos h5]
    decide
  · have e1 : gPar B e = 100 * kOf B ((e / 100 : Nat) : Int) 1 + gVal B e := rfl
    refine ⟨h2, a1, ?_, ?_⟩
    · show gVal B e = gPar B e % 100
      omega
    · omega
theorem kV_lay {x c v y d : Int} (hc : c = 0 ∨ c = 1) (hd : d = 0 ∨ d = 1) (hv : -1 ≤ v ∧ v ≤ 99) (h1 : 0 ≤ kCe B x ∧ kCe B x ≤ 10200) : kV (bUp B (198 + x) (kLay B x c v)) y d = if y = x ∧ d = c then v else kV B y d := by
  have e0 := kV_in2 (c := 0) h1
  have e1 := kV_in2 (c := 1) h1
  by_cases q : y = x
  · subst q
    have hl : kV (bUp B (198 + y) (kLay B y c v)) y d = (if d = 0 then kLay B y c v / 101 else kLay B y c v % 101) - 1 := by
      show (if d = 0 then kCe (bUp B (198 + y) (kLay B y c v)) y / 101 else kCe (bUp B (198 + y) (kLay B y c v)) y % 101) - 1 = _
      rw [kCe_up, if_pos rfl]
    rw [hl]
    unfold kLay
    rcases hc with rfl | rfl <;> rcases hd with rfl | rfl <;> simp <;> omega
  · rw [if_neg (fun z => q z.1)]
    unfold kV
    rw [kCe_up, if_neg q]
theorem kChg_val (hI : bInv B) : ∀ n, n ≤ gR B → (∀ x, 0 ≤ x → x < 600 → (0 ≤ kCe (kChg B mk n) x ↔ 0 ≤ kCe B x)) ∧ ∀ e, e < gR B → gRow B e → gVal (kChg B mk n) e = if e < n ∧ gHitU B mk e then gNew B e else gVal B e := by
  intro n
  induction n with
  | zero =>
    intro _
    exact ⟨fun x _ _ => Iff.rfl, fun e _ _ => by rw [if_neg (fun z => absurd z.1 (Nat.not_lt_zero _))]; rfl⟩
  | succ n ih =>
    intro hn
    obtain ⟨i1, i2⟩ := ih (by omega)
    have hW := hI.1
    obtain ⟨w1, s1⟩ := kChg_wr (mk := mk) hW n (by omega)
    obtain ⟨hch, hr, hk, hcc, hne, hv, t1, t2⟩ := g_at hW (show n < gR B by omega)
    have hcn := s1.ch hW (show n < gR B by omega)
    have hrn : gRow (kChg B mk n) n ↔ gRow B n := by
      show 0 ≤ kCe (kChg B mk n) (gCh (kChg B mk n) n) ↔ _
      rw [hcn]
      exact i1 _ hch.1 hch.2
    have w1' := hW.2.1
    have hof : ∀ (e : Nat) (w : Int), e < gR B → w < 6 → kOf (kChg B mk n) ((e / 100 : Nat) : Int) w = kOf B ((e / 100 : Nat) : Int) w := by
      intro e w he hw
      have := (g_at hW he).2.1
      exact s1.of (by omega)
    have hvn : gRow B n → gVal (kChg B mk n) n = gVal B n := by
      intro z
      rw [i2 n (by omega) z, if_neg (fun y => absurd y.1 (Nat.lt_irrefl _))]
    have hhit : gHitU (kChg B mk n) mk n ↔ gHitU B mk n := by
      have hp : gRow B n → gPar (kChg B mk n) n = gPar B n := by
        intro z
        show 100 * kOf (kChg B mk n) ((n / 100 : Nat) : Int) 1 + gVal (kChg B mk n) n = 100 * kOf B ((n / 100 : Nat) : Int) 1 + gVal B n
        rw [hvn z, hof n 1 (by omega) (by decide)]
      constructor
      · rintro ⟨⟨a1, a2, a3⟩, a4⟩
        have b1 := hrn.mp a1
        rw [hvn b1] at a2
        rw [hp b1] at a3
        rw [hcn] at a4
        exact ⟨⟨b1, a2, a3⟩, a4⟩
      · rintro ⟨⟨a1, a2, a3⟩, a4⟩
        exact ⟨⟨hrn.mpr a1, by rw [hvn a1]; exact a2, by rw [hp a1]; exact a3⟩, by rw [hcn]; exact a4⟩
    rw [kChg_succ]
    by_cases q : gHitU (kChg B mk n) mk n
    · rw [kChg1_yes q]
      have hq := hhit.mp q
      have hgn : gNew (kChg B mk n) n = gNew B n := by
        unfold gNew
        rw [hof n 3 (by omega) (by decide), hof n 5 (by omega) (by decide)]
      have hnew : -1 ≤ gNew B n ∧ gNew B n ≤ 99 := by
        have := hk.2.2.2.2.2
        unfold gNew
        split <;> omega
      have hco : kOf B ((n / 100 : Nat) : Int) 2 = 0 ∨ kOf B ((n / 100 : Nat) : Int) 2 = 1 := by
        have := hk.2.2.1
        omega
      have hrow2 : 0 ≤ kCe (kChg B mk n) (gCh B n) ∧ kCe (kChg B mk n) (gCh B n) ≤ 10200 := ⟨(i1 _ hch.1 hch.2).mpr hq.1.1, (w1.2.2.2 _ hch.1 hch.2).2⟩
      rw [hcn, hof n 2 (by omega) (by decide), hgn]
      have hl := kLay_in (c := kOf B ((n / 100 : Nat) : Int) 2) hrow2 hnew
      refine ⟨fun x h1 h2 => ?_, fun e he hrow => ?_⟩
      · rw [kCe_up]
        split
        · rename_i z
          rw [z]
          exact ⟨fun _ => hq.1.1, fun _ => hl.1⟩
        · exact i1 x h1 h2
      · obtain ⟨ech, er, ek, ecc, ene, ev, et1, et2⟩ := g_at hW he
        have hs2 : kSame B (bUp (kChg B mk n) (198 + gCh B n) (kLay (kChg B mk n) (gCh B n) (kOf B ((n / 100 : Nat) : Int) 2) (gNew B n))) := s1.tr (kSame.up hch.1)
        have e1 : gVal (bUp (kChg B mk n) (198 + gCh B n) (kLay (kChg B mk n) (gCh B n) (kOf B ((n / 100 : Nat) : Int) 2) (gNew B n))) e = kV (bUp (kChg B mk n) (198 + gCh B n) (kLay (kChg B mk n) (gCh B n) (kOf B ((n / 100 : Nat) : Int) 2) (gNew B n))) (gCh B e) (kOf B ((e / 100 : Nat) : Int) 2) := by
          show kV _ (gCh _ e) (kOf _ _ 2) = _
          rw [hs2.ch hW he, hs2.of (by omega)]
        have eco : kOf B ((e / 100 : Nat) : Int) 2 = 0 ∨ kOf B ((e / 100 : Nat) : Int) 2 = 1 := by
          have := ek.2.2.1
          omega
        rw [e1, kV_lay hco eco hnew hrow2]
        by_cases z : e = n
        · subst z
          rw [if_pos ⟨rfl, rfl⟩, if_pos ⟨by omega, hq⟩]
        · have : ¬ (gCh B e = gCh B n ∧ kOf B ((e / 100 : Nat) : Int) 2 = kOf B ((n / 100 : Nat) : Int) 2) := by
            rintro ⟨y1, y2⟩
            have d1 : gCh B e = 100 * kOf B ((e / 100 : Nat) : Int) 0 + ((e % 100 : Nat) : Int) := rfl
            have d2 : gCh B n = 100 * kOf B ((n / 100 : Nat) : Int) 0 + ((n % 100 : Nat) : Int) := rfl
            have := hI.2.2.2.1.1 (e / 100) (n / 100) er hr (by omega) y2
            omega
          rw [if_neg this]
          have e2 : kV (kChg B mk n) (gCh B e) (kOf B ((e / 100 : Nat) : Int) 2) = gVal (kChg B mk n) e := by
            show _ = kV _ (gCh _ e) (kOf _ _ 2)
            rw [s1.ch hW he, hof e 2 he (by decide)]
          rw [e2, i2 e he hrow]
          by_cases y : e < n ∧ gHitU B mk e
          · rw [if_pos y, if_pos ⟨by omega, y.2⟩]
          · rw [if_neg y, if_neg (fun w => y ⟨by omega, w.2⟩)]
    · rw [kChg1_no q]
      refine ⟨i1, fun e he hrow => ?_⟩
      rw [i2 e he hrow]
      have hq : ¬ gHitU B mk n := fun z => q (hhit.mpr z)
      by_cases y : e < n ∧ gHitU B mk e
      · rw [if_pos y, if_pos ⟨by omega, y.2⟩]
      · rw [if_neg y, if_neg]
        rintro ⟨w1, w2⟩
        by_cases z : e = n
        · subst z; exact hq w2
        · exact y ⟨by omega, w2⟩
theorem kChg_hit (hI : bInv B) {n : Nat} (hn : n < gR B) : gHitU (kChg B mk n) mk n ↔ gHitU B mk n := by
  have hW := hI.1
  obtain ⟨i1, i2⟩ := kChg_val (mk := mk) hI n (by omega)
  obtain ⟨w1, s1⟩ := kChg_wr (mk := mk) hW n (by omega)
  obtain ⟨hch, hr, hk, hcc, hne, hv, t1, t2⟩ := g_at hW hn
  have w1' := hW.2.1
  have hcn := s1.ch hW hn
  have hrn : gRow (kChg B mk n) n ↔ gRow B n := by
    show 0 ≤ kCe (kChg B mk n) (gCh (kChg B mk n) n) ↔ _
    rw [hcn]
    exact i1 _ hch.1 hch.2
  have hvn : gRow B n → gVal (kChg B mk n) n = gVal B n := by
    intro z
    rw [i2 n (by omega) z, if_neg (fun y => absurd y.1 (Nat.lt_irrefl _))]
  have hp : gRow B n → gPar (kChg B mk n) n = gPar B n := by
    intro z
    show 100 * kOf (kChg B mk n) ((n / 100 : Nat) : Int) 1 + gVal (kChg B mk n) n = 100 * kOf B ((n / 100 : Nat) : Int) 1 + gVal B n
    rw [hvn z, s1.of (by omega)]
  constructor
  · rintro ⟨⟨a1, a2, a3⟩, a4⟩
    have b1 := hrn.mp a1
    rw [hvn b1] at a2
    rw [hp b1] at a3
    rw [hcn] at a4
    exact ⟨⟨b1, a2, a3⟩, a4⟩
  · rintro ⟨⟨a1, a2, a3⟩, a4⟩
    exact ⟨⟨hrn.mpr a1, by rw [hvn a1]; exact a2, by rw [hp a1]; exact a3⟩, by rw [hcn]; exact a4⟩
theorem kChgN_cnt (hI : bInv B) : ∀ n, n ≤ gR B → kChgN B mk n = cnt n (fun e => decide (gHitU B mk e)) := by
  intro n
  induction n with
  | zero => exact fun _ => rfl
  | succ n ih =>
    intro hn
    have hh := kChg_hit (mk := mk) hI (show n < gR B by omega)
    rw [kChgN_succ, cnt_succ, ih (by omega)]
    by_cases q : gHitU B mk n
    · rw [if_pos (hh.mpr q), if_pos (decide_eq_true q)]
    · rw [if_neg (fun z => q (hh.mp z)), if_neg (by rw [decide_eq_true_eq]; exact q)]
/-- the list of the deleted, and their rows gone -/
theorem kDelN_at {l : List Int} (hl : l.length ≤ 120) (hin : ∀ y ∈ l, 0 ≤ y ∧ y < 600) : ∀ n, n ≤ l.length → (∀ z, z < 78 → kDelN B l n z = B z) ∧ (∀ i : Nat, i < n → kDelN B l n (78 + i) = gAt l i) ∧ ∀ y, 0 ≤ y → kCe (kDelN B l n) y = if y ∈ l.take n then -1 else kCe B y := by
  intro n
  induction n with
  | zero =>
    intro _
    refine ⟨fun z _ => rfl, fun i hi => absurd hi (Nat.not_lt_zero _), fun y _ => ?_⟩
    rw [List.take_zero, if_neg List.not_mem_nil]
    rfl
  | succ n ih =>
    intro hn
    obtain ⟨i1, i2, i3⟩ := ih (by omega)
    obtain ⟨g1, g2⟩ := gAt_mem (show n < l.length by omega)
    have hy := hin _ g1
    refine ⟨fun z hz => ?_, fun i hi => ?_, fun y h0 => ?_⟩
    · show bUp (bUp (kDelN B l n) (78 + n) (gAt l n)) (198 + gAt l n) (-1) z = _
      rw [bUp_ne (by omega), bUp_ne (by omega)]
      exact i1 z hz
    · show bUp (bUp (kDelN B l n) (78 + n) (gAt l n)) (198 + gAt l n) (-1) (78 + i) = _
      rw [bUp_ne (by omega)]
      by_cases q : i = n
      · subst q; exact bUp_at
      · rw [bUp_ne (by omega)]
        exact i2 i (by omega)
    · show kCe (bUp (bUp (kDelN B l n) (78 + n) (gAt l n)) (198 + gAt l n) (-1)) y = _
      rw [kCe_up, List.take_succ, g2]
      have e2 : kCe (bUp (kDelN B l n) (78 + n) (gAt l n)) y = kCe (kDelN B l n) y := bUp_ne (by omega)
      rw [e2, i3 y h0]
      by_cases q : y = gAt l n
      · rw [if_pos q, if_pos (List.mem_append_right _ (by rw [q]; exact List.mem_singleton.mpr rfl))]
      · rw [if_neg q]
        by_cases z : y ∈ List.take n l
        · rw [if_pos z, if_pos (List.mem_append_left _ z)]
        · rw [if_neg z, if_neg]
          intro w
          rcases List.mem_append.mp w with w | w
          · exact z w
          · exact q (by simpa using w)
end PD
