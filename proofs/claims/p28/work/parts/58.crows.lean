-- THE CLASS: rows come, change, go
theorem qmem {Q : Option mm_V → mm_S → Prop} {v : Option mm_V} {m m2 : mm_M} {h : mm_H} (e : m2 = m) (hq : Q v (mm_ms0 m h)) : Q v (mm_ms0 m2 h) := e ▸ hq
def cMv (mi : mm_M) (f t : Nat) : mm_M := mm_up (mm_up (mm_up mi 6 t (mi 6 f)) 7 (2 * t) (mi 7 (2 * f))) 7 (2 * t + 1) (mi 7 (2 * f + 1))
/-- rows moved down by one place -/
def cSl (mi : mm_M) (s e : Nat) : mm_M := fun a k => if a = 6 ∧ s ≤ k ∧ k < e then mi 6 (k + 1) else if a = 7 ∧ 2 * s ≤ k ∧ k < 2 * e then mi 7 (k + 2) else mi a k
/-- rows moved up by one place -/
def cSr (mi : mm_M) (s e : Nat) : mm_M := fun a k => if a = 6 ∧ s < k ∧ k ≤ e then mi 6 (k - 1) else if a = 7 ∧ 2 * s + 2 ≤ k ∧ k < 2 * e + 2 then mi 7 (k - 2) else mi a k
theorem mm_up_def {mi : mm_M} {a k b j : Nat} {v : Int} : mm_up mi a k v b j = if b = a then (if j = k then v else mi b j) else mi b j := rfl
theorem cSl_0 {mi : mm_M} {s : Nat} : cSl mi s s = mi := by
  funext a k
  unfold cSl
  rw [if_neg (by omega), if_neg (by omega)]
theorem cSr_0 {mi : mm_M} {s : Nat} : cSr mi s s = mi := by
  funext a k
  unfold cSr
  rw [if_neg (by omega), if_neg (by omega)]
theorem cSl_ne {mi : mm_M} {s e a : Nat} (h6 : a ≠ 6) (h7 : a ≠ 7) : cSl mi s e a = mi a := by
  funext k
  unfold cSl
  rw [if_neg (by omega), if_neg (by omega)]
theorem cSr_ne {mi : mm_M} {s e a : Nat} (h6 : a ≠ 6) (h7 : a ≠ 7) : cSr mi s e a = mi a := by
  funext k
  unfold cSr
  rw [if_neg (by omega), if_neg (by omega)]
theorem cSl_6 {mi : mm_M} {s e k : Nat} : cSl mi s e 6 k = if s ≤ k ∧ k < e then mi 6 (k + 1) else mi 6 k := by
  unfold cSl
  by_cases q : s ≤ k ∧ k < e
  · rw [if_pos ⟨rfl, q⟩, if_pos q]
  · rw [if_neg (by omega), if_neg (by omega), if_neg q]
theorem cSl_7 {mi : mm_M} {s e k : Nat} : cSl mi s e 7 k = if 2 * s ≤ k ∧ k < 2 * e then mi 7 (k + 2) else mi 7 k := by
  unfold cSl
  rw [if_neg (by omega)]
  by_cases q : 2 * s ≤ k ∧ k < 2 * e
  · rw [if_pos ⟨rfl, q⟩, if_pos q]
  · rw [if_neg (by omega), if_neg q]
theorem cSr_6 {mi : mm_M} {s e k : Nat} : cSr mi s e 6 k = if s < k ∧ k ≤ e then mi 6 (k - 1) else mi 6 k := by
  unfold cSr
  by_cases q : s < k ∧ k ≤ e
  · rw [if_pos ⟨rfl, q⟩, if_pos q]
  · rw [if_neg (by omega), if_neg (by omega), if_neg q]
theorem cSr_7 {mi : mm_M} {s e k : Nat} : cSr mi s e 7 k = if 2 * s + 2 ≤ k ∧ k < 2 * e + 2 then mi 7 (k - 2) else mi 7 k := by
  unfold cSr
  rw [if_neg (by omega)]
  by_cases q : 2 * s + 2 ≤ k ∧ k < 2 * e + 2
  · rw [if_pos ⟨rfl, q⟩, if_pos q]
  · rw [if_neg (by omega), if_neg q]
theorem cSl_s {mi : mm_M} {s e : Nat} (hse : s ≤ e) : cMv (cSl mi s e) (e + 1) e = cSl mi s (e + 1) := by
  have g6 : cSl mi s e 6 (e + 1) = mi 6 (e + 1) := by unfold cSl; rw [if_neg (by omega), if_neg (by omega)]
  have g7 : cSl mi s e 7 (2 * (e + 1)) = mi 7 (2 * (e + 1)) := by unfold cSl; rw [if_neg (by omega), if_neg (by omega)]
  have g8 : cSl mi s e 7 (2 * (e + 1) + 1) = mi 7 (2 * (e + 1) + 1) := by unfold cSl; rw [if_neg (by omega), if_neg (by omega)]
  funext a k
  unfold cMv
  rw [g6, g7, g8, mm_up_def, mm_up_def, mm_up_def]
  by_cases h6 : a = 6
  · subst h6
    rw [if_neg (by decide), if_neg (by decide), if_pos rfl, cSl_6, cSl_6]
    by_cases hk : k = e
    · subst hk
      rw [if_pos rfl, if_pos (by omega)]
    · rw [if_neg hk]
      by_cases q : s ≤ k ∧ k < e
      · rw [if_pos q, if_pos (by omega)]
      · rw [if_neg q, if_neg (by omega)]
  · by_cases h7 : a = 7
    · subst h7
      rw [if_pos rfl, if_pos rfl, if_neg (show ¬ ((7 : Nat) = 6) by decide), cSl_7, cSl_7]
      by_cases k1 : k = 2 * e + 1
      · rw [if_pos k1, if_pos (by omega)]
        exact congrArg (mi 7) (by omega)
      · rw [if_neg k1]
        by_cases k0 : k = 2 * e
        · rw [if_pos k0, if_pos (by omega)]
          exact congrArg (mi 7) (by omega)
        · rw [if_neg k0]
          by_cases q : 2 * s ≤ k ∧ k < 2 * e
          · rw [if_pos q, if_pos (by omega)]
          · rw [if_neg q, if_neg (by omega)]
    · rw [if_neg h7, if_neg h7, if_neg h6, cSl_ne h6 h7, cSl_ne h6 h7]
theorem cSr_s {mi : mm_M} {s e : Nat} (hse : s + 1 ≤ e) : cMv (cSr mi (s + 1) e) s (s + 1) = cSr mi s e := by
  have g6 : cSr mi (s + 1) e 6 s = mi 6 s := by unfold cSr; rw [if_neg (by omega), if_neg (by omega)]
  have g7 : cSr mi (s + 1) e 7 (2 * s) = mi 7 (2 * s) := by unfold cSr; rw [if_neg (by omega), if_neg (by omega)]
  have g8 : cSr mi (s + 1) e 7 (2 * s + 1) = mi 7 (2 * s + 1) := by unfold cSr; rw [if_neg (by omega), if_neg (by omega)]
  funext a k
  unfold cMv
  rw [g6, g7, g8, mm_up_def, mm_up_def, mm_up_def]
  by_cases h6 : a = 6
  · subst h6
    rw [if_neg (by decide), if_neg (by decide), if_pos rfl, cSr_6, cSr_6]
    by_cases hk : k = s + 1
    · subst hk
      rw [if_pos rfl, if_pos (by omega)]
      rfl
    · rw [if_neg hk]
      by_cases q : s + 1 < k ∧ k ≤ e
      · rw [if_pos q, if_pos (by omega)]
      · rw [if_neg q, if_neg (by omega)]
  · by_cases h7 : a = 7
    · subst h7
      rw [if_pos rfl, if_pos rfl, if_neg (show ¬ ((7 : Nat) = 6) by decide), cSr_7, cSr_7]
      by_cases k1 : k = 2 * (s + 1) + 1
      · rw [if_pos k1, if_pos (by omega)]
        exact congrArg (mi 7) (by omega)
      · rw [if_neg k1]
        by_cases k0 : k = 2 * (s + 1)
        · rw [if_pos k0, if_pos (by omega)]
          exact congrArg (mi 7) (by omega)
        · rw [if_neg k0]
          by_cases q : 2 * (s + 1) + 2 ≤ k ∧ k < 2 * e + 2
          · rw [if_pos q, if_pos (by omega)]
          · rw [if_neg q, if_neg (by omega)]
    · rw [if_neg h7, if_neg h7, if_neg h6, cSr_ne h6 h7, cSr_ne h6 h7]
section CR
variable {X : Nat × (Nat → Int)} {mi : mm_M} {h : mm_H} {Q : Option mm_V → mm_S → Prop} {B : Int → Int}
theorem sp40' {s c : Int} (hs : 0 ≤ s ∧ s < 120) (hc : c = 0 ∨ c = 1) : mcl X 40 [.inr (some 1), .inl s, .inl c] (mm_ms0 mi h) Q = Q (some (.inl (mi 7 (s * 2 + c).toNat))) (mm_ms0 mi h) := by
  rw [c40, b40_0, mm_wi (z := s * 2) (by omega) (by omega), mm_wi (z := s * 2 + c) (by omega) (by omega), mm_andT (by omega), b40_10]
theorem sp58 {f t : Nat} (hf : f < 120) (ht : t < 120) (hne : f ≠ t) (hq : Q none (mm_ms0 (cMv mi f t) h)) : mcl X 58 [.inr (some 1), .inl (f : Int), .inl (t : Int)] (mm_ms0 mi h) Q := by
  rw [c58, b58_0, mm_andT (by omega), b58_11, mm_andT (by omega), b58_12, b58_14, if_pos (by decide), b58_19, sp40' (by omega) (Or.inl rfl), mm_psh_i, b58_34, mm_wi (z := (t : Int) * 2) (by omega) (by omega), mm_wi (z := (t : Int) * 2 + 0) (by omega) (by omega), mm_andT (by omega), b58_35, mm_wi (z := 0 + 1) (by decide) (by decide), b58_14, if_pos (by decide), b58_19, sp40' (c := 0 + 1) (by omega) (Or.inr rfl), mm_psh_i, b58_34, mm_wi (z := (t : Int) * 2) (by omega) (by omega), mm_wi (z := (t : Int) * 2 + (0 + 1)) (by omega) (by omega), mm_andT (by omega), b58_35, mm_wi (z := 0 + 1 + 1) (by decide) (by decide), b58_14, if_neg (by decide), b58_41]
  refine qmem ?_ hq
  unfold cMv
  rw [show ((t : Int)).toNat = t by omega, show ((f : Int)).toNat = f by omega, show ((t : Int) * 2 + 0).toNat = 2 * t by omega, show ((f : Int) * 2 + 0).toNat = 2 * f by omega, show ((t : Int) * 2 + (0 + 1)).toNat = 2 * t + 1 by omega, show ((f : Int) * 2 + (0 + 1)).toNat = 2 * f + 1 by omega]
  rw [mm_up_at2 (by omega), mm_up_ne (a := 6) (b := 7) (by decide)]
/-- a row goes -/
theorem sp57 (hS : cS mi 1 B) {x : Int} (hx : 0 ≤ x ∧ x < 600) (hc : 0 ≤ kCe B x) (hq : ∀ mi2, cS mi2 1 (bUp B (198 + x) (-1)) → cF1 mi mi2 → Q none (mm_ms0 mi2 h)) : mcl X 57 [.inr (some 1), .inl x] (mm_ms0 mi h) Q := by
  have w0 := hS.1.1.1
  have t1 : Int.tdiv x 100 = x / 100 := Int.tdiv_eq_ediv_of_nonneg hx.1
  have t2 : Int.tmod x 100 = x % 100 := Int.tmod_eq_emod_of_nonneg hx.1
  have hrow : kIsRow B (x / 100) (x % 100) := by
    refine ⟨⟨by omega, ?_⟩, by omega, by rw [show 100 * (x / 100) + x % 100 = x by omega]; exact hc⟩
    by_cases q : x / 100 < B 0
    · exact q
    · have := hS.1.2.2.2.2.1.2 x (by omega) hx.2
      omega
  rw [c57, b57_0, t1, t2]
  refine sp39 hS ?_ (fun z => absurd hrow z)
  intro j g1 g2 g3 g4 g5
  have hT := hS.2.2.2.2 (x / 100).toNat (by omega)
  have htt : (((x / 100).toNat : Nat) : Int) = x / 100 := by omega
  generalize ht : (x / 100).toNat = t at g3 g4 hT htt
  have ht6 : t < 6 := by omega
  obtain ⟨hrc, hz, hr, hso, hco⟩ := hT
  have hxx : x = 100 * (t : Int) + cKy mi 1 t j := by omega
  rw [mm_psh_i, b57_14, if_neg (by omega), b57_21, mm_andT (by omega), b57_31, ht, show mi 2 t = cRc mi 1 t from rfl, mm_wi (z := x / 100 * 20) (by omega) (by omega), mm_wi (z := x / 100 * 20 + cRc mi 1 t) (by omega) (by omega), mm_wi (z := x / 100 * 20 + cRc mi 1 t - 1) (by omega) (by omega)]
  have hlast : ((20 * t + (cRc mi 1 t).toNat - 1 : Nat) : Int) = x / 100 * 20 + cRc mi 1 t - 1 := by omega
  have hslot : ((20 * t + j : Nat) : Int) = 20 * (x / 100) + j := by omega
  rw [← hlast, ← hslot]
  have key := mm_for (fun n => 20 * t + j ≤ n → mwp X 57 39 [some (.inr (some 1)), some (.inl x), some (.inl (x / 100)), some (.inl ((20 * t + j : Nat) : Int)), some (.inl ((20 * t + (cRc mi 1 t).toNat - 1 : Nat) : Int)), some (.inl (n : Int))] [] (mm_ms0 (cSl mi (20 * t + j) n) h) Q) (20 * t + (cRc mi 1 t).toNat - 1) ?_ ?_ (20 * t + j) (by omega) (Nat.le_refl _)
  · rw [cSl_0] at key
    exact key
  · intro _
    rw [b57_39, if_neg (by omega), b57_62, mm_andT (by omega), b57_69, mm_andT (by omega), b57_72, ht, cSl_ne (by decide) (by decide), show mi 2 t = cRc mi 1 t from rfl, mm_wi (z := cRc mi 1 t - 1) (by omega) (by omega)]
    -- the State without the row
    have r6 : ∀ s i, i < 20 → s < 6 → mm_up (cSl mi (20 * t + j) (20 * t + (cRc mi 1 t).toNat - 1)) 2 t (cRc mi 1 t - 1) 6 (20 * s + i) = if s = t ∧ j ≤ i ∧ (i : Int) + 1 < cRc mi 1 t then mi 6 (20 * s + i + 1) else mi 6 (20 * s + i) := by
      intro s i hi hs
      rw [mm_up_ne (by decide), cSl_6]
      by_cases q : s = t ∧ j ≤ i ∧ (i : Int) + 1 < cRc mi 1 t
      · rw [if_pos q, if_pos (by omega)]
      · rw [if_neg q, if_neg (by omega)]
    have r7 : ∀ s i c, i < 20 → s < 6 → c < 2 → mm_up (cSl mi (20 * t + j) (20 * t + (cRc mi 1 t).toNat - 1)) 2 t (cRc mi 1 t - 1) 7 (2 * (20 * s + i) + c) = if s = t ∧ j ≤ i ∧ (i : Int) + 1 < cRc mi 1 t then mi 7 (2 * (20 * s + i + 1) + c) else mi 7 (2 * (20 * s + i) + c) := by
      intro s i c hi hs hc
      rw [mm_up_ne (by decide), cSl_7]
      by_cases q : s = t ∧ j ≤ i ∧ (i : Int) + 1 < cRc mi 1 t
      · rw [if_pos q, if_pos (by omega)]
        exact congrArg (mi 7) (by omega)
      · rw [if_neg q, if_neg (by omega)]
    have r2 : ∀ s, mm_up (cSl mi (20 * t + j) (20 * t + (cRc mi 1 t).toNat - 1)) 2 t (cRc mi 1 t - 1) 2 s = if s = t then cRc mi 1 t - 1 else mi 2 s := by
      intro s
      rw [mm_up_if, cSl_ne (by decide) (by decide)]
    have ro : ∀ a, a ≠ 2 → a ≠ 6 → a ≠ 7 → mm_up (cSl mi (20 * t + j) (20 * t + (cRc mi 1 t).toNat - 1)) 2 t (cRc mi 1 t - 1) a = mi a := by
      intro a h2 h6 h7
      rw [mm_up_ne h2, cSl_ne h6 h7]
    generalize mm_up (cSl mi (20 * t + j) (20 * t + (cRc mi 1 t).toNat - 1)) 2 t (cRc mi 1 t - 1) = m2 at r6 r7 r2 ro ⊢
    refine hq m2 ?_ (fun a ha => ro a (by omega) (by omega) (by omega))
    have lo : ∀ z, z < 198 → bUp B (198 + x) (-1) z = B z := fun z hz => bUp_lo hx.1 hz
    have hd := hS.2.1
    refine cS_mk hS (hS.1.up hx (by decide) (Or.inr (by decide))) ?_ (lo 1 (by decide)) (fun z _ h2 => lo z h2) (ro 3 (by decide) (by decide) (by decide)) (ro 4 (by decide) (by decide) (by decide)) (ro 5 (by decide) (by decide) (by decide)) (ro 8 (by decide) (by decide) (by decide)) (fun s hs => ?_)
    · unfold cHd at hd ⊢
      rw [ro 1 (by decide) (by decide) (by decide), lo 0 (by decide), lo 1 (by decide), lo 5 (by decide), lo 2 (by decide), lo 3 (by decide), lo 4 (by decide)]
      exact hd
    · by_cases q : s = t
      · subst q
        have e1 : cRc m2 1 s = cRc mi 1 s - 1 := by
          show m2 2 s = _
          rw [r2, if_pos rfl]
        have ek : ∀ i : Nat, (i : Int) < cRc mi 1 s - 1 → cKy m2 1 s i = cKy mi 1 s (if j ≤ i then i + 1 else i) := by
          intro i hi
          show m2 6 (20 * s + i) = _
          rw [r6 s i (by omega) hs]
          by_cases q : j ≤ i
          · rw [if_pos ⟨rfl, q, by omega⟩, if_pos q]; rfl
          · rw [if_neg (by omega), if_neg q]; rfl
        have ev : ∀ (i c : Nat), (i : Int) < cRc mi 1 s - 1 → c < 2 → cVl m2 1 s i c = cVl mi 1 s (if j ≤ i then i + 1 else i) c := by
          intro i c hi hc
          show m2 7 (2 * (20 * s + i) + c) = _
          rw [r7 s i c (by omega) hs hc]
          by_cases q : j ≤ i
          · rw [if_pos ⟨rfl, q, by omega⟩, if_pos q]; rfl
          · rw [if_neg (by omega), if_neg q]; rfl
        have inj : ∀ a b : Nat, (a : Int) < cRc mi 1 s → (b : Int) < cRc mi 1 s → cKy mi 1 s a = cKy mi 1 s b → a = b := by
          intro a b ha hb hab
          rcases Nat.lt_trichotomy a b with h | h | h
          · have := hso a b h hb; omega
          · exact h
          · have := hso b a h ha; omega
        refine ⟨by rw [e1]; omega, fun hb => ?_, fun i hi => ?_, fun a b ha hb => ?_, fun k hk hce => ?_⟩
        · rw [lo 0 (by decide)] at hb
          omega
        · rw [e1] at hi
          have hσ : ((if j ≤ i then i + 1 else i : Nat) : Int) < cRc mi 1 s := by split <;> omega
          have hσ2 : (if j ≤ i then i + 1 else i) ≠ j := by split <;> omega
          rw [ek i hi, ev i 0 hi (by decide), ev i 1 hi (by decide)]
          generalize (if j ≤ i then i + 1 else i) = u at hσ hσ2 ⊢
          obtain ⟨x1, x2, x3, x4⟩ := hr u hσ
          rw [kCe_up, if_neg (fun z => hσ2 (inj u j hσ g3 (by omega)))]
          exact ⟨x1, x2, x3, x4⟩
        · rw [e1] at hb
          rw [ek a (by omega), ek b (by omega)]
          exact hso _ _ (by split <;> split <;> omega) (by split <;> omega)
        · rw [kCe_up] at hce
          by_cases qk : 100 * (s : Int) + k = x
          · rw [if_pos qk] at hce
            omega
          · rw [if_neg qk] at hce
            obtain ⟨i, hi, ei⟩ := hco k hk hce
            have hij : i ≠ j := fun z => by subst z; omega
            by_cases q3 : i < j
            · exact ⟨i, by rw [e1]; omega, by rw [ek i (by omega), if_neg (by omega)]; exact ei⟩
            · refine ⟨i - 1, by rw [e1]; omega, ?_⟩
              rw [ek (i - 1) (by omega), if_pos (by omega), show i - 1 + 1 = i by omega]
              exact ei
      · refine (hS.2.2.2.2 s hs).co ?_ (fun i hi => ?_) (fun i c hi hc => ?_) (fun k hk hk2 => ?_) (by rw [lo 0 (by decide)]; exact Int.le_refl _)
        · show m2 2 s = _
          rw [r2, if_neg q]; rfl
        · show m2 6 (20 * s + i) = _
          rw [r6 s i hi hs, if_neg (fun z => q z.1)]; rfl
        · show m2 7 (2 * (20 * s + i) + c) = _
          rw [r7 s i c hi hs hc, if_neg (fun z => q z.1)]; rfl
        · rw [kCe_up, if_neg (by omega)]
  · intro n hn ih hle
    rw [b57_39, if_pos (by omega), b57_46, mm_wi (z := (n : Int) + 1) (by omega) (by omega)]
    refine sp58 (f := n + 1) (t := n) (by omega) (by omega) (by omega) ?_
    rw [mm_psh_n, b57_56, mm_wi (z := (n : Int) + 1) (by omega) (by omega), cSl_s hle]
    exact ih (by omega)
end CR
