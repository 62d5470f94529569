-- THE CLASS: a row comes, a value changes
section CI
variable {X : Nat × (Nat → Int)} {mi : mm_M} {h : mm_H} {Q : Option mm_V → mm_S → Prop} {B : Int → Int}
theorem sp55 (hS : cS mi 1 B) {t k v0 v1 : Int} (hk : cInsOk B t k v0 v1) (hq : ∀ mi2, cS mi2 1 (kIns B t k v0 v1).2 → cF1 mi mi2 → Q (some (.inl (kIns B t k v0 v1).1)) (mm_ms0 mi2 h)) : mcl X 55 [.inr (some 1), .inl t, .inl k, .inl v0, .inl v1] (mm_ms0 mi h) Q := by
  rw [kIns_ok hk] at hq
  dsimp only at hq
  obtain ⟨q1, q2, q3, q4, q5, q6⟩ := hk
  have q2' : (0 ≤ k ∧ k ≤ 99) ∧ (-1 ≤ v0 ∧ v0 ≤ if 0 < kCols B t then 99 else -1) ∧ (-1 ≤ v1 ∧ v1 ≤ if 1 < kCols B t then 99 else -1) := Classical.byContradiction (fun z => q2 z)
  have hk := q2'.1
  have hv0 : -1 ≤ v0 ∧ v0 ≤ 99 := ⟨q2'.2.1.1, le_99 q2'.2.1.2⟩
  have hv1 : -1 ≤ v1 ∧ v1 ≤ 99 := ⟨q2'.2.2.1, le_99 q2'.2.2.2⟩
  have hno : kCe B (100 * t + k) < 0 := by
    by_cases z : 0 ≤ kCe B (100 * t + k)
    · exact absurd ⟨q1, by omega, z⟩ q3
    · omega
  have w0 := hS.1.1.1
  have htt : ((t.toNat : Nat) : Int) = t := by omega
  have hrows := cRows hS (t := t) (by omega)
  have hT := hS.2.2.2.2 t.toNat (by omega)
  generalize ht : t.toNat = s at hT htt hrows
  have hs6 : s < 6 := by omega
  have hTT := hT
  obtain ⟨hrc, hz, hr, hso, hco⟩ := hT
  have hr20 : cRc mi 1 s < 20 := by omega
  have hne : ∀ i : Nat, (i : Int) < cRc mi 1 s → cKy mi 1 s i ≠ k := by
    intro i hi e
    have := (hr i hi).2.1
    rw [e, htt] at this
    have := hr i hi
    omega
  have hI2 : ∀ w, bInv (bUp (kInsB B (100 * t + k) v0 v1) 2 w) := fun w =>
    hS.1.ins (B2 := bUp (kInsB B (100 * t + k) v0 v1) 2 w) (v := 101 * (v0 + 1) + v1 + 1) q1 (by omega) (by omega) hno q4 (fun z hz => bUp_ne hz)
  have hkr : kRows (kInsB B (100 * t + k) v0 v1) t = cRc mi 1 s + 1 := by
    rw [← hrows]
    exact kRows_in (by omega) hno (by omega)
  rw [hkr] at hq
  -- the place is found
  have fin : ∀ p : Nat, (p : Int) ≤ cRc mi 1 s → (∀ i : Nat, i < p → cKy mi 1 s i < k) → (∀ i : Nat, p ≤ i → (i : Int) < cRc mi 1 s → k < cKy mi 1 s i) → mwp X 55 53 [some (.inr (some 1)), some (.inl t), some (.inl k), some (.inl v0), some (.inl v1), some (.inl (t * 20)), some (.inl ((20 * s + p : Nat) : Int))] [] (mm_ms0 (cSr mi (20 * s + p) (20 * s + (cRc mi 1 s).toNat)) h) Q := by
    intro p hp hlt hgt
    rw [b55_53, mm_andT (by omega), b55_61, mm_wi (z := ((20 * s + p : Nat) : Int) * 2) (by omega) (by omega), mm_andT (by omega), b55_71, mm_wi (z := ((20 * s + p : Nat) : Int) * 2) (by omega) (by omega), mm_wi (z := ((20 * s + p : Nat) : Int) * 2 + 1) (by omega) (by omega), mm_andT (by omega), b55_84, mm_andT (by omega), b55_91, mm_andT (by omega), b55_94, mm_andT (by omega), b55_110, ht]
    have y2 : (mm_up (mm_up (mm_up (cSr mi (20 * s + p) (20 * s + (cRc mi 1 s).toNat)) 6 ((20 * s + p : Nat) : Int).toNat k) 7 (((20 * s + p : Nat) : Int) * 2).toNat v0) 7 (((20 * s + p : Nat) : Int) * 2 + 1).toNat v1) 2 s = cRc mi 1 s := by
      rw [mm_up_ne (by decide), mm_up_ne (by decide), mm_up_ne (by decide), cSr_ne (by decide) (by decide)]; rfl
    rw [y2, mm_wi (z := cRc mi 1 s + 1) (by omega) (by omega)]
    have r6 : ∀ u i, i < 20 → u < 6 → (mm_up (mm_up (mm_up (cSr mi (20 * s + p) (20 * s + (cRc mi 1 s).toNat)) 6 ((20 * s + p : Nat) : Int).toNat k) 7 (((20 * s + p : Nat) : Int) * 2).toNat v0) 7 (((20 * s + p : Nat) : Int) * 2 + 1).toNat v1) 6 (20 * u + i) = if u = s ∧ i = p then k else if u = s ∧ p < i ∧ (i : Int) ≤ cRc mi 1 s then mi 6 (20 * u + i - 1) else mi 6 (20 * u + i) := by
      intro u i hi hu
      rw [mm_up_ne (by decide), mm_up_ne (by decide), mm_up_if, cSr_6]
      by_cases a1 : u = s ∧ i = p
      · rw [if_pos a1, if_pos (by omega)]
      · rw [if_neg a1, if_neg (by omega)]
        by_cases a2 : u = s ∧ p < i ∧ (i : Int) ≤ cRc mi 1 s
        · rw [if_pos a2, if_pos (by omega)]
        · rw [if_neg a2, if_neg (by omega)]
    have r7 : ∀ u i c, i < 20 → u < 6 → c < 2 → (mm_up (mm_up (mm_up (cSr mi (20 * s + p) (20 * s + (cRc mi 1 s).toNat)) 6 ((20 * s + p : Nat) : Int).toNat k) 7 (((20 * s + p : Nat) : Int) * 2).toNat v0) 7 (((20 * s + p : Nat) : Int) * 2 + 1).toNat v1) 7 (2 * (20 * u + i) + c) = if u = s ∧ i = p then (if c = 0 then v0 else v1) else if u = s ∧ p < i ∧ (i : Int) ≤ cRc mi 1 s then mi 7 (2 * (20 * u + i - 1) + c) else mi 7 (2 * (20 * u + i) + c) := by
      intro u i c hi hu hc
      rw [mm_up_if, mm_up_if, mm_up_ne (by decide), cSr_7]
      by_cases a1 : u = s ∧ i = p
      · rw [if_pos a1]
        by_cases a3 : c = 0
        · rw [if_pos a3, if_neg (by omega), if_pos (by omega)]
        · rw [if_neg a3, if_pos (by omega)]
      · rw [if_neg a1, if_neg (by omega), if_neg (by omega)]
        by_cases a2 : u = s ∧ p < i ∧ (i : Int) ≤ cRc mi 1 s
        · rw [if_pos a2, if_pos (by omega)]
          exact congrArg (mi 7) (by omega)
        · rw [if_neg a2, if_neg (by omega)]
    have ro : ∀ a, a ≠ 6 → a ≠ 7 → (mm_up (mm_up (mm_up (cSr mi (20 * s + p) (20 * s + (cRc mi 1 s).toNat)) 6 ((20 * s + p : Nat) : Int).toNat k) 7 (((20 * s + p : Nat) : Int) * 2).toNat v0) 7 (((20 * s + p : Nat) : Int) * 2 + 1).toNat v1) a = mi a := by
      intro a h6 h7
      rw [mm_up_ne h7, mm_up_ne h7, mm_up_ne h6, cSr_ne h6 h7]
    generalize mm_up (mm_up (mm_up (cSr mi (20 * s + p) (20 * s + (cRc mi 1 s).toNat)) 6 ((20 * s + p : Nat) : Int).toNat k) 7 (((20 * s + p : Nat) : Int) * 2).toNat v0) 7 (((20 * s + p : Nat) : Int) * 2 + 1).toNat v1 = m1 at r6 r7 ro ⊢
    have y10 : mm_up m1 2 s (cRc mi 1 s + 1) 1 10 = B 2 := by
      rw [mm_up_ne (by decide), ro 1 (by decide) (by decide)]
      exact hS.2.1.2.2.2.1
    rw [y10, mm_up_ne (a := 1) (b := 2) (by decide), mm_up_at]
    refine hq _ ?_ (fun a ha => by rw [mm_up_ne (by omega), mm_up_ne (by omega), ro a (by omega) (by omega)])
    have lo : ∀ z, z ≠ 2 → z < 198 → bUp (kInsB B (100 * t + k) v0 v1) 2 (mm_w (B 2 + 1)) z = B z := fun z h1 h2 => by
      rw [bUp_ne h1]; exact bUp_lo (by omega) h2
    have ce : ∀ y, 0 ≤ y → kCe (bUp (kInsB B (100 * t + k) v0 v1) 2 (mm_w (B 2 + 1))) y = if y = 100 * t + k then 101 * (v0 + 1) + v1 + 1 else kCe B y := by
      intro y hy
      rw [← kCe_up]
      exact bUp_ne (by omega)
    obtain ⟨d0, d1, d2, d3, d4, d5⟩ := hS.2.1
    refine cS_mk hS (hI2 _) ⟨?_, ?_, ?_, ?_, ?_, ?_⟩ (lo 1 (by decide) (by decide)) (fun z h1 h2 => lo z (by omega) h2) ?_ ?_ ?_ ?_ (fun u hu => ?_)
    · rw [mm_up_at2 (by decide), mm_up_ne (by decide), ro 1 (by decide) (by decide), lo 0 (by decide) (by decide)]; exact d0
    · rw [mm_up_at2 (by decide), mm_up_ne (by decide), ro 1 (by decide) (by decide), lo 1 (by decide) (by decide)]; exact d1
    · rw [mm_up_at2 (by decide), mm_up_ne (by decide), ro 1 (by decide) (by decide), lo 5 (by decide) (by decide)]; exact d2
    · rw [mm_up_at, bUp_at]
    · rw [mm_up_at2 (by decide), mm_up_ne (by decide), ro 1 (by decide) (by decide), lo 3 (by decide) (by decide)]; exact d4
    · rw [mm_up_at2 (by decide), mm_up_ne (by decide), ro 1 (by decide) (by decide), lo 4 (by decide) (by decide)]; exact d5
    · rw [mm_up_ne (by decide), mm_up_ne (by decide), ro 3 (by decide) (by decide)]
    · rw [mm_up_ne (by decide), mm_up_ne (by decide), ro 4 (by decide) (by decide)]
    · rw [mm_up_ne (by decide), mm_up_ne (by decide), ro 5 (by decide) (by decide)]
    · rw [mm_up_ne (by decide), mm_up_ne (by decide), ro 8 (by decide) (by decide)]
    · by_cases q : u = s
      · subst q
        have e1 : cRc (mm_up (mm_up m1 2 u (cRc mi 1 u + 1)) 1 10 (mm_w (B 2 + 1))) 1 u = cRc mi 1 u + 1 := by
          show mm_up (mm_up m1 2 u (cRc mi 1 u + 1)) 1 10 (mm_w (B 2 + 1)) 2 u = _
          rw [mm_up_ne (by decide), mm_up_at]
        have ek : ∀ i : Nat, (i : Int) < cRc mi 1 u + 1 → cKy (mm_up (mm_up m1 2 u (cRc mi 1 u + 1)) 1 10 (mm_w (B 2 + 1))) 1 u i = if i = p then k else cKy mi 1 u (if p < i then i - 1 else i) := by
          intro i hi
          show mm_up (mm_up m1 2 u (cRc mi 1 u + 1)) 1 10 (mm_w (B 2 + 1)) 6 (20 * u + i) = _
          rw [mm_up_ne (by decide), mm_up_ne (by decide), r6 u i (by omega) hu]
          by_cases a1 : i = p
          · rw [if_pos ⟨rfl, a1⟩, if_pos a1]
          · rw [if_neg (fun z => a1 z.2), if_neg a1]
            by_cases a2 : p < i
            · rw [if_pos ⟨rfl, a2, by omega⟩, if_pos a2]
              exact congrArg (mi 6) (by omega)
            · rw [if_neg (by omega), if_neg a2]; rfl
        have ev : ∀ (i c : Nat), (i : Int) < cRc mi 1 u + 1 → c < 2 → cVl (mm_up (mm_up m1 2 u (cRc mi 1 u + 1)) 1 10 (mm_w (B 2 + 1))) 1 u i c = if i = p then (if c = 0 then v0 else v1) else cVl mi 1 u (if p < i then i - 1 else i) c := by
          intro i c hi hc
          show mm_up (mm_up m1 2 u (cRc mi 1 u + 1)) 1 10 (mm_w (B 2 + 1)) 7 (2 * (20 * u + i) + c) = _
          rw [mm_up_ne (by decide), mm_up_ne (by decide), r7 u i c (by omega) hu hc]
          by_cases a1 : i = p
          · rw [if_pos ⟨rfl, a1⟩, if_pos a1]
          · rw [if_neg (fun z => a1 z.2), if_neg a1]
            by_cases a2 : p < i
            · rw [if_pos ⟨rfl, a2, by omega⟩, if_pos a2]
              exact congrArg (mi 7) (by omega)
            · rw [if_neg (by omega), if_neg a2]; rfl
        generalize mm_up (mm_up m1 2 u (cRc mi 1 u + 1)) 1 10 (mm_w (B 2 + 1)) = m2 at e1 ek ev ⊢
        refine ⟨by rw [e1]; omega, fun hb => ?_, fun i hi => ?_, fun a b ha hb => ?_, fun j hj hce => ?_⟩
        · rw [lo 0 (by decide) (by decide)] at hb
          omega
        · rw [e1] at hi
          rw [ek i hi, ev i 0 hi (by decide), ev i 1 hi (by decide)]
          by_cases a1 : i = p
          · rw [if_pos a1, if_pos a1, if_pos a1, if_pos rfl, if_neg (by decide), ce _ (by omega), if_pos (by omega)]
            exact ⟨hk, by omega, hv0, hv1⟩
          · rw [if_neg a1, if_neg a1, if_neg a1]
            have hu2 : ((if p < i then i - 1 else i : Nat) : Int) < cRc mi 1 u := by split <;> omega
            generalize (if p < i then i - 1 else i) = w at hu2 ⊢
            obtain ⟨x1, x2, x3, x4⟩ := hr w hu2
            rw [ce _ (by omega), if_neg (fun z => hne w hu2 (by omega))]
            exact ⟨x1, x2, x3, x4⟩
        · rw [e1] at hb
          rw [ek a (by omega), ek b hb]
          by_cases a1 : a = p
          · rw [if_pos a1, if_neg (by omega), if_pos (by omega)]
            exact hgt (b - 1) (by omega) (by omega)
          · rw [if_neg a1]
            by_cases b1 : b = p
            · rw [if_pos b1, if_neg (by omega)]
              exact hlt a (by omega)
            · rw [if_neg b1]
              exact hso _ _ (by split <;> split <;> omega) (by split <;> omega)
        · rw [ce _ (by omega)] at hce
          by_cases a1 : (j : Int) = k
          · exact ⟨p, by rw [e1]; omega, by rw [ek p (by omega), if_pos rfl]; omega⟩
          · rw [if_neg (by omega)] at hce
            obtain ⟨i, hi, ei⟩ := hco j hj hce
            by_cases a2 : i < p
            · exact ⟨i, by rw [e1]; omega, by rw [ek i (by omega), if_neg (by omega), if_neg (by omega)]; exact ei⟩
            · refine ⟨i + 1, by rw [e1]; omega, ?_⟩
              rw [ek (i + 1) (by omega), if_neg (by omega), if_pos (by omega)]
              exact ei
      · refine (hS.2.2.2.2 u hu).co ?_ (fun i hi => ?_) (fun i c hi hc => ?_) (fun j hj hj2 => ?_) (by rw [lo 0 (by decide) (by decide)]; exact Int.le_refl _)
        · show mm_up (mm_up m1 2 s (cRc mi 1 s + 1)) 1 10 (mm_w (B 2 + 1)) 2 u = _
          rw [mm_up_ne (by decide), mm_up_at2 q, ro 2 (by decide) (by decide)]; rfl
        · show mm_up (mm_up m1 2 s (cRc mi 1 s + 1)) 1 10 (mm_w (B 2 + 1)) 6 (20 * u + i) = _
          rw [mm_up_ne (by decide), mm_up_ne (by decide), r6 u i hi hu, if_neg (fun z => q z.1), if_neg (fun z => q z.1)]; rfl
        · show mm_up (mm_up m1 2 s (cRc mi 1 s + 1)) 1 10 (mm_w (B 2 + 1)) 7 (2 * (20 * u + i) + c) = _
          rw [mm_up_ne (by decide), mm_up_ne (by decide), r7 u i c hi hu hc, if_neg (fun z => q z.1), if_neg (fun z => q z.1)]; rfl
        · rw [ce _ (by omega), if_neg (by omega)]
  rw [c55, b55_0, mm_wi (z := t * 20) (by omega) (by omega), mm_andT (by omega), b55_14, ht, show mi 2 s = cRc mi 1 s from rfl, mm_wi (z := t * 20 + cRc mi 1 s) (by omega) (by omega)]
  have down : ∀ p : Nat, (p : Int) ≤ cRc mi 1 s → (∀ i : Nat, p ≤ i → (i : Int) < cRc mi 1 s → k < cKy mi 1 s i) → mwp X 55 17 [some (.inr (some 1)), some (.inl t), some (.inl k), some (.inl v0), some (.inl v1), some (.inl (t * 20)), some (.inl ((20 * s + p : Nat) : Int))] [] (mm_ms0 (cSr mi (20 * s + p) (20 * s + (cRc mi 1 s).toNat)) h) Q := by
    intro p
    induction p with
    | zero =>
      intro hp hgt
      rw [b55_17, if_neg (by omega)]
      exact fin 0 hp (fun i hi => absurd hi (Nat.not_lt_zero _)) hgt
    | succ p ih =>
      intro hp hgt
      rw [b55_17, if_pos (by omega), b55_24, mm_wi (z := ((20 * s + (p + 1) : Nat) : Int) - 1) (by omega) (by omega), mm_andT (by omega), b55_33]
      have e6 : cSr mi (20 * s + (p + 1)) (20 * s + (cRc mi 1 s).toNat) 6 (((20 * s + (p + 1) : Nat) : Int) - 1).toNat = cKy mi 1 s p := by
        rw [cSr_6, if_neg (by omega)]
        exact congrArg (mi 6) (by omega)
      rw [e6]
      by_cases q : k < cKy mi 1 s p
      · rw [if_pos q, b55_37, mm_wi (z := ((20 * s + (p + 1) : Nat) : Int) - 1) (by omega) (by omega), show ((20 * s + (p + 1) : Nat) : Int) - 1 = ((20 * s + p : Nat) : Int) by omega]
        refine sp58 (f := 20 * s + p) (t := 20 * s + (p + 1)) (by omega) (by omega) (by omega) ?_
        rw [mm_psh_n, b55_47, mm_wi (z := ((20 * s + (p + 1) : Nat) : Int) + -1) (by omega) (by omega), show ((20 * s + (p + 1) : Nat) : Int) + -1 = ((20 * s + p : Nat) : Int) by omega, show 20 * s + (p + 1) = (20 * s + p) + 1 by omega, cSr_s (by omega)]
        refine ih (by omega) (fun i h1 h2 => ?_)
        by_cases z : i = p
        · rw [z]; exact q
        · exact hgt i (by omega) h2
      · rw [if_neg q]
        refine fin (p + 1) hp (fun i hi => ?_) hgt
        have g1 := hne p (by omega)
        by_cases z : i = p
        · rw [z]; omega
        · have := hso i p (by omega) (by omega)
          omega
  have := down (cRc mi 1 s).toNat (by omega) (fun i h1 h2 => by omega)
  rw [cSr_0, show ((20 * s + (cRc mi 1 s).toNat : Nat) : Int) = t * 20 + cRc mi 1 s by omega] at this
  exact this
/-- a value of a row changes -/
theorem sp56 (hS : cS mi 1 B) {t k c v : Int} (hrow : kIsRow B t k) (hc : c = 0 ∨ c = 1) (hv : -1 ≤ v ∧ v ≤ 99) (hq : ∀ mi2, cS mi2 1 (bUp B (198 + (100 * t + k)) (kLay B (100 * t + k) c v)) → (∀ a, a ≠ 7 → mi2 a = mi a) → Q (some (.inl (kV B (100 * t + k) c))) (mm_ms0 mi2 h)) : mcl X 56 [.inr (some 1), .inl t, .inl k, .inl c, .inl v] (mm_ms0 mi h) Q := by
  have w0 := hS.1.1.1
  rw [c56, b56_0]
  refine sp39 hS ?_ (fun z => absurd hrow z)
  intro j g1 g2 g3 g4 g5
  have htt : ((t.toNat : Nat) : Int) = t := by omega
  have hT := hS.2.2.2.2 t.toNat (by omega)
  generalize ht : t.toNat = s at g3 g4 hT htt
  have hs6 : s < 6 := by omega
  obtain ⟨hrc, hz, hr, hso, hco⟩ := hT
  have hvv := cRowV hS hs6 g3 hc
  rw [htt, g4] at hvv
  have hv0 : kV B (100 * s + cKy mi 1 s j) 0 = cVl mi 1 s j 0 := cRowV hS hs6 g3 (c := 0) (Or.inl rfl)
  have hv1 : kV B (100 * s + cKy mi 1 s j) 1 = cVl mi 1 s j 1 := cRowV hS hs6 g3 (c := 1) (Or.inr rfl)
  rw [htt, g4] at hv0 hv1
  rw [mm_psh_i, b56_6, if_neg (by omega), b56_17, show 20 * t + (j : Int) = 20 * (s : Int) + j by omega, sp40 hs6 (by omega) hc, mm_psh_i, b56_24, mm_wi (z := (20 * (s : Int) + j) * 2) (by omega) (by omega), mm_wi (z := (20 * (s : Int) + j) * 2 + c) (by omega) (by omega), mm_andT (by omega), b56_39, ← hvv]
  have r7 : ∀ u i c2, i < 20 → c2 < 2 → mm_up mi 7 ((20 * (s : Int) + j) * 2 + c).toNat v 7 (2 * (20 * u + i) + c2) = if u = s ∧ i = j ∧ (c2 : Int) = c then v else mi 7 (2 * (20 * u + i) + c2) := by
    intro u i c2 hi hc2
    rw [mm_up_if]
    by_cases q : u = s ∧ i = j ∧ (c2 : Int) = c
    · rw [if_pos q, if_pos (by omega)]
    · rw [if_neg q, if_neg (by omega)]
  have ro : ∀ a, a ≠ 7 → mm_up mi 7 ((20 * (s : Int) + j) * 2 + c).toNat v a = mi a := fun a ha => mm_up_ne ha
  generalize mm_up mi 7 ((20 * (s : Int) + j) * 2 + c).toNat v = m2 at r7 ro ⊢
  refine hq m2 ?_ ro
  have hx : 0 ≤ 100 * t + k ∧ 100 * t + k < 600 := by
    have := hrow.2.1
    omega
  have hce := hrow.2.2
  have hcm := (hS.1.1.2.2.2 _ hx.1 hx.2).2
  have hl := kLay_in (B := B) (x := 100 * t + k) (c := c) (v := v) ⟨hce, hcm⟩ hv
  have lo : ∀ z, z < 198 → bUp B (198 + (100 * t + k)) (kLay B (100 * t + k) c v) z = B z := fun z hz => bUp_lo hx.1 hz
  have hd := hS.2.1
  refine cS_mk hS (hS.1.up hx (by omega) (Or.inl hce)) ?_ (lo 1 (by decide)) (fun z _ h2 => lo z h2) (ro 3 (by decide)) (ro 4 (by decide)) (ro 5 (by decide)) (ro 8 (by decide)) (fun u hu => ?_)
  · unfold cHd at hd ⊢
    rw [ro 1 (by decide), lo 0 (by decide), lo 1 (by decide), lo 5 (by decide), lo 2 (by decide), lo 3 (by decide), lo 4 (by decide)]
    exact hd
  · by_cases q : u = s
    · subst q
      have e1 : cRc m2 1 u = cRc mi 1 u := by
        show m2 2 u = _
        rw [ro 2 (by decide)]; rfl
      have ek : ∀ i, cKy m2 1 u i = cKy mi 1 u i := by
        intro i
        show m2 6 _ = _
        rw [ro 6 (by decide)]; rfl
      have ev : ∀ (i c2 : Nat), (i : Int) < cRc mi 1 u → c2 < 2 → cVl m2 1 u i c2 = if i = j ∧ (c2 : Int) = c then v else cVl mi 1 u i c2 := by
        intro i c2 hi hc2
        show m2 7 (2 * (20 * u + i) + c2) = _
        rw [r7 u i c2 (by omega) hc2]
        by_cases a : i = j ∧ (c2 : Int) = c
        · rw [if_pos ⟨rfl, a⟩, if_pos a]
        · rw [if_neg (fun z => a z.2), if_neg a]; rfl
      refine ⟨by rw [e1]; exact hrc, fun hb => ?_, fun i hi => ?_, fun a b ha hb => ?_, fun i hi hcc => ?_⟩
      · rw [lo 0 (by decide)] at hb
        rw [e1]
        exact hz hb
      · rw [e1] at hi
        obtain ⟨x1, x2, x3, x4⟩ := hr i hi
        rw [ek, ev i 0 hi (by decide), ev i 1 hi (by decide), kCe_up]
        by_cases a : i = j
        · subst a
          rw [if_pos (by omega)]
          unfold kLay
          rcases hc with rfl | rfl
          · have n1 : ¬ (i = i ∧ ((1 : Nat) : Int) = 0) := fun z => absurd z.2 (by decide)
            have n0 : i = i ∧ ((0 : Nat) : Int) = 0 := ⟨rfl, rfl⟩
            rw [if_pos n0, if_neg n1, if_pos rfl, hv1]
            exact ⟨x1, by omega, hv, x4⟩
          · have n0 : ¬ (i = i ∧ ((0 : Nat) : Int) = 1) := fun z => absurd z.2 (by decide)
            have n1 : i = i ∧ ((1 : Nat) : Int) = 1 := ⟨rfl, rfl⟩
            rw [if_neg n0, if_pos n1, if_neg (show ¬ ((1 : Int) = 0) by decide), hv0]
            exact ⟨x1, by omega, x3, hv⟩
        · have : ¬ (100 * (u : Int) + cKy mi 1 u i = 100 * t + k) := by
            intro z
            rcases Nat.lt_trichotomy i j with h | h | h
            · have := hso i j h g3; omega
            · exact a h
            · have := hso j i h hi; omega
          rw [if_neg this, if_neg (fun z => a z.1), if_neg (fun z => a z.1)]
          exact ⟨x1, x2, x3, x4⟩
      · rw [e1] at hb
        rw [ek, ek]
        exact hso a b ha hb
      · have hcc2 : 0 ≤ kCe B (100 * (u : Int) + i) := by
          rw [kCe_up] at hcc
          by_cases z : 100 * (u : Int) + i = 100 * t + k
          · rw [z]; exact hce
          · rw [if_neg z] at hcc
            exact hcc
        obtain ⟨n, h1, h2⟩ := hco i hi hcc2
        exact ⟨n, by rw [e1]; exact h1, by rw [ek]; exact h2⟩
    · refine (hS.2.2.2.2 u hu).co ?_ (fun i hi => ?_) (fun i c2 hi hc2 => ?_) (fun i hi hi2 => ?_) (by rw [lo 0 (by decide)]; exact Int.le_refl _)
      · show m2 2 u = _
        rw [ro 2 (by decide)]; rfl
      · show m2 6 _ = _
        rw [ro 6 (by decide)]; rfl
      · show m2 7 (2 * (20 * u + i) + c2) = _
        rw [r7 u i c2 hi hc2, if_neg (fun z => q z.1)]; rfl
      · rw [kCe_up, if_neg (by have := hrow.2.1; omega)]
end CI
