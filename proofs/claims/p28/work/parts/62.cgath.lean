-- THE CLASS gathers as the machine on lists says
/-- nothing but the Deletion's objects -/
def cFD (mi mi2 : mm_M) : Prop := ∀ a, ¬ (61 ≤ a ∧ a ≤ 65) → mi2 a = mi a
theorem cFD.rf {mi : mm_M} : cFD mi mi := fun _ _ => rfl
theorem cFD.tr {m1 m2 m3 : mm_M} (h1 : cFD m1 m2) (h2 : cFD m2 m3) : cFD m1 m3 := fun a ha => (h2 a ha).trans (h1 a ha)
theorem cFD.up {m1 m2 : mm_M} {a k : Nat} {v : Int} (h : cFD m1 m2) (ha : 61 ≤ a ∧ a ≤ 65) : cFD m1 (mm_up m2 a k v) := fun b hb => by
  rw [mm_up_ne (by omega)]
  exact h b hb
theorem cFD.S {m1 m2 : mm_M} {B : Int → Int} (h : cFD m1 m2) (hS : cS m1 1 B) : cS m2 1 B := hS.co (fun i hi => h _ (by omega))
/-- what the class's scratch cells hold of a configuration -/
def cRD (m0 mi : mm_M) (B : Int → Int) (C : gC) : Prop :=
  (∀ i, i < C.1.length → ∀ q, C.1[i]? = some q → mi 64 i = q.1 ∧ ∃ p : Nat, mi 65 i = p ∧ (p : Int) ≤ 20 * B 1 ∧ ∀ mk, gNx B mk q.1 q.2 = gNx B mk q.1 (cPl m0 B p)) ∧ (∀ x, 0 ≤ x → x < 600 → mi 63 x.toNat = if C.2.1 x = true then 1 else 0) ∧
  mi 61 1 = C.2.2.length ∧ (∀ i, i < C.2.2.length → ∀ x, C.2.2[i]? = some x → mi 62 i = x) ∧ mi 61 8 = C.1.length
theorem ite_both {c : Prop} {d : Decidable c} {a b : Prop} (ha : a) (hb : b) : ite c a b := by
  by_cases z : c
  · rw [if_pos z]; exact ha
  · rw [if_neg z]; exact hb
section CG
variable {X : Nat × (Nat → Int)} {mi m0 : mm_M} {h : mm_H} {Q : Option mm_V → mm_S → Prop} {B : Int → Int}
theorem sp12 {c : Int} (hc : -1 ≤ c ∧ c < 600) : mcl X 12 [.inr (some 61), .inl c] (mm_ms0 mi h) Q = Q (some (.inl (if c ≠ -1 ∧ mA mi 63 c ≠ 0 then 1 else 0))) (mm_ms0 mi h) := by
  rw [c12, b12_0]
  by_cases q1 : c = -1
  · rw [if_pos q1, b12_18, b12_19, if_neg (fun z => z.1 q1)]
    exact mm_andT (Or.inl rfl)
  · rw [if_neg q1, b12_5, mm_andT (by omega), b12_11, show mi 63 c.toNat = mA mi 63 c from rfl]
    by_cases q2 : mA mi 63 c = 0
    · rw [if_pos q2, b12_18, b12_19, if_neg (fun z => z.2 q2)]
      exact mm_andT (Or.inl rfl)
    · rw [if_neg q2, b12_14, b12_19, if_pos ⟨q1, q2⟩]
      exact mm_andT (Or.inr rfl)
theorem sp153d (hq : ∀ mi2, (∀ a, a ≠ 63 → mi2 a = mi a) → (∀ k, k < 600 → mi2 63 k = 0) → Q none (mm_ms0 mi2 h)) : mcl X 153 [.inr (some 63), .inl 0] (mm_ms0 mi h) Q := by
  rw [c153d, b153d_0]
  refine mm_for (fun n => ∀ mi2 : mm_M, (∀ a, a ≠ 63 → mi2 a = mi a) → (∀ k, k < n → mi2 63 k = 0) → mwp X 153 5 [some (.inr (some 63)), some (.inl 0), some (.inl (n : Int)), some (.inl 600)] [] (mm_ms0 mi2 h) Q) 600 ?_ ?_ 0 (Nat.zero_le _) mi (fun _ _ => rfl) (fun k hk => absurd hk (Nat.not_lt_zero _))
  · intro mi2 h1 h2
    rw [b153d_5, if_neg (by omega), b153d_20]
    exact hq mi2 h1 h2
  · intro n hn ih mi2 h1 h2
    rw [b153d_5, if_pos (by omega), b153d_10]
    refine ⟨by omega, ?_⟩
    rw [b153d_14, mm_wi (by omega) (by omega)]
    refine ih _ (fun a ha => by rw [mm_up_ne ha]; exact h1 a ha) (fun k hk => ?_)
    rw [mm_up_if]
    split
    · rfl
    · exact h2 k (by omega)
theorem sp7 {x : Int} {d : Nat} (hd : mi 61 8 = d) (hd2 : d < 120) (hx : 0 ≤ x ∧ x < 600) (hq : Q none (mm_ms0 (mm_up (mm_up (mm_up (mm_up mi 63 x.toNat 1) 64 d x) 65 d 0) 61 8 ((d : Int) + 1)) h)) : mcl X 7 [.inr (some 61), .inl x] (mm_ms0 mi h) Q := by
  rw [c7, b7_0, hd, if_pos (by omega), b7_10, mm_andT (by omega), b7_17, mm_up_ne (a := 63) (b := 61) (by decide), hd, mm_andT (by omega), b7_27, mm_up_ne (a := 64) (b := 61) (by decide), mm_up_ne (a := 63) (b := 61) (by decide), hd, mm_andT (by omega), b7_37, mm_up_ne (a := 65) (b := 61) (by decide), mm_up_ne (a := 64) (b := 61) (by decide), mm_up_ne (a := 63) (b := 61) (by decide), hd, mm_wi (z := (d : Int) + 1) (by omega) (by omega), show ((d : Int)).toNat = d by omega]
  exact hq
theorem sp8 {d c : Nat} (hd : mi 61 8 = (d : Int) + 1) (hd2 : d < 120) (hc : mi 61 1 = c) (hc2 : c < 120) (hq : Q none (mm_ms0 (mm_up (mm_up (mm_up mi 61 8 d) 62 c (mi 64 d)) 61 1 ((c : Int) + 1)) h)) : mcl X 8 [.inr (some 61)] (mm_ms0 mi h) Q := by
  rw [c8, b8_0, hd, mm_wi (z := (d : Int) + 1 - 1) (by omega) (by omega), show (d : Int) + 1 - 1 = d by omega, mm_andT (by omega), b8_27, hc, mm_andT (by omega), b8_28, mm_up_ne (a := 62) (b := 61) (by decide), mm_up_at2 (a := 61) (by decide), hc, mm_wi (z := (c : Int) + 1) (by omega) (by omega), mm_up_ne (a := 61) (b := 64) (by decide), show ((d : Int)).toNat = d by omega, show ((c : Int)).toNat = c by omega]
  exact hq
theorem gNx_steady {mk : Int → Bool} {x : Int} : ∀ e, e < gR B → ¬ gRow B e → gNx B mk x (e + 1) = gNx B mk x e := by
  intro e he hrow
  refine (gNx_next he ?_).symm
  cases hc : gCand B mk x e with
  | false => rfl
  | true => exact absurd (gCand_iff.mp hc).1.2.1 hrow
theorem gCand_pl (hS : cS mi 1 B) {p : Nat} (hp : (p : Int) < 20 * B 1) (hj : cRw mi B p) {x : Int} {mk : Int → Bool} : gCand B mk x (cEr mi B p) = true ↔ kOf B ((p / 20 : Nat) : Int) 3 = 2 ∧ (gVal B (cEr mi B p) ≠ -1 ∧ gPar B (cEr mi B p) = x) ∧ mk (gCh B (cEr mi B p)) = false ∨ (kOf B ((p / 20 : Nat) : Int) 3 = 2 ∧ gVal B (cEr mi B p) = -1 ∧ x % 100 = -1 ∧ False) := by
  obtain ⟨v1, v2, v3, v4, v5, v6⟩ := cW_val hS hp hj
  have hv := cVl_in hS hp hj
  rw [gCand_iff]
  have e1 : gPar B (cEr mi B p) = 100 * kOf B ((cEr mi B p / 100 : Nat) : Int) 1 + gVal B (cEr mi B p) := rfl
  constructor
  · rintro ⟨⟨a1, a2, a3, a4⟩, a5⟩
    have a3' : gVal B (cEr mi B p) = x % 100 := a3
    rw [v4] at a1 a4 e1
    exact Or.inl ⟨a1, ⟨by omega, by omega⟩, a5⟩
  · rintro (⟨a1, ⟨a2, a3⟩, a4⟩ | z)
    · refine ⟨⟨by rw [v4]; exact a1, v1, ?_, ?_⟩, a4⟩
      · show gVal B (cEr mi B p) = x % 100
        omega
      · omega
    · exact z.2.2.2.elim
theorem cPl_end (hS : cS m0 1 B) {p : Nat} (hp : 20 * B 1 ≤ (p : Int)) : gR B ≤ cPl m0 B p := by
  have := gR_i hS
  unfold cPl
  omega
/-- the next child of the row on top -/
theorem sp9 (hS : cS mi 1 B) (hm : ∀ p, cPl mi B p = cPl m0 B p) {r : List (Int × Nat)} {x : Int} {e : Nat} {mk : Int → Bool} {out : List Int} (hx : 0 ≤ x ∧ x < 600) (hR : cRD m0 mi B (r ++ [(x, e)], mk, out)) (hl : r.length < 120)
    (hn : gNx B mk x e = none → Q (some (.inl (-1))) (mm_ms0 mi h)) (hs : ∀ e2, gNx B mk x e = some e2 → ∀ p : Nat, (p : Int) ≤ 20 * B 1 → (∀ mk2, gNx B mk2 x (e2 + 1) = gNx B mk2 x (cPl m0 B p)) → Q (some (.inl (gCh B e2))) (mm_ms0 (mm_up mi 65 r.length p) h)) : mcl X 9 [.inr (some 61), .inr (some 1)] (mm_ms0 mi h) Q := by
  obtain ⟨r1, r2, r3, r4, r5⟩ := hR
  obtain ⟨t1, p0, t2, t3, t4⟩ := r1 r.length (by simp) (x, e) (by simp)
  dsimp only at t1 t2 t3 t4 r2 r5
  have w1 := hS.1.1.2.1
  have d8 : mi 61 8 = (r.length : Int) + 1 := by rw [r5]; simp
  rw [c9, b9_0, d8, mm_wi (z := (r.length : Int) + 1 - 1) (by omega) (by omega), mm_andT (by omega), b9_11, d8, mm_wi (z := (r.length : Int) + 1 - 1) (by omega) (by omega), mm_andT (by omega), b9_31, show ((r.length : Int) + 1 - 1).toNat = r.length by omega, t1, t2, hS.2.1.2.1, mm_wi (z := B 1 * 20) (by omega) (by omega)]
  have go : ∀ p : Nat, p ≤ (20 * B 1).toNat → ∀ o5 o6 o7 : Option mm_V, gNx B mk x (cPl m0 B p) = gNx B mk x e → mwp X 9 33 [some (.inr (some 61)), some (.inr (some 1)), some (.inl x), some (.inl (B 1 * 20)), some (.inl (p : Int)), o5, o6, o7] [] (mm_ms0 mi h) Q := by
    refine mm_for (fun p => ∀ o5 o6 o7 : Option mm_V, gNx B mk x (cPl m0 B p) = gNx B mk x e → mwp X 9 33 [some (.inr (some 61)), some (.inr (some 1)), some (.inl x), some (.inl (B 1 * 20)), some (.inl (p : Int)), o5, o6, o7] [] (mm_ms0 mi h) Q) (20 * B 1).toNat ?_ ?_
    · intro o5 o6 o7 hg
      rw [b9_33, if_neg (by omega), b9_119]
      refine hn ?_
      rw [← hg, ← hm]
      exact gNx_end (cPl_end hS (by omega))
    · intro p hpn ih o5 o6 o7 hg
      have hp : (p : Int) < 20 * B 1 := by omega
      have hr : ((p / 20 : Nat) : Int) < B 1 := by omega
      have d1 : Int.tdiv (p : Int) 20 = ((p / 20 : Nat) : Int) := by rw [Int.tdiv_eq_ediv_of_nonneg (by omega)]; omega
      have d2 : Int.tmod (p : Int) 20 = ((p % 20 : Nat) : Int) := by rw [Int.tmod_eq_emod_of_nonneg (by omega)]; omega
      have on : gNx B mk x (cPl m0 B (p + 1)) = gNx B mk x e → ∀ o7 : Option mm_V, mwp X 9 113 [some (.inr (some 61)), some (.inr (some 1)), some (.inl x), some (.inl (B 1 * 20)), some (.inl (p : Int)), some (.inl ((p / 20 : Nat) : Int)), some (.inl ((p % 20 : Nat) : Int)), o7] [] (mm_ms0 mi h) Q := by
        intro hg2 o7
        rw [b9_113, mm_wi (z := (p : Int) + 1) (by omega) (by omega)]
        exact ih _ _ _ hg2
      rw [b9_33, if_pos (by omega), b9_39, d1, d2, sp41 hS (by omega) (by omega), mm_psh_i, b9_60]
      by_cases hj : cRw mi B p
      · obtain ⟨w2, w3⟩ := cW_row hS (f := gNx B mk x) gNx_steady hp hj
        obtain ⟨v1, v2, v3, v4, v5, v6⟩ := cW_val hS hp hj
        have hv := cVl_in hS hp hj
        have hga := g_at hS.1.1 v5
        rw [hm] at w2
        rw [hm] at w3
        have skip : gCand B mk x (cEr mi B p) = false → gNx B mk x (cPl m0 B (p + 1)) = gNx B mk x e := by
          intro hc
          rw [w3, ← gNx_next v5 hc, w2, hg]
        have hcand := gCand_pl hS hp hj (x := x) (mk := mk)
        by_cases q1 : kOf B ((p / 20 : Nat) : Int) 3 = 2
        · rw [if_pos q1, b9_64, sp44 hS hp rfl rfl, mm_psh_i, b9_72]
          by_cases q2 : gVal B (cEr mi B p) ≠ -1 ∧ gPar B (cEr mi B p) = x
          · rw [if_pos (show cRw mi B p ∧ gVal B (cEr mi B p) ≠ -1 from ⟨hj, q2.1⟩), if_pos q2.2, b9_76, sp43 hS hp rfl rfl, mm_psh_i, if_pos hj, b9_84, sp12 (by have := hga.1; omega), mm_psh_i, b9_92]
            have hmk : mA mi 63 (gCh B (cEr mi B p)) = if mk (gCh B (cEr mi B p)) = true then 1 else 0 := r2 _ hga.1.1 hga.1.2
            by_cases q3 : mk (gCh B (cEr mi B p)) = true
            · rw [if_pos q3] at hmk
              rw [if_pos (show gCh B (cEr mi B p) ≠ -1 ∧ mA mi 63 (gCh B (cEr mi B p)) ≠ 0 from ⟨by have := hga.1; omega, by omega⟩), if_neg (by decide)]
              refine on (skip ?_) _
              cases hc : gCand B mk x (cEr mi B p) with
              | false => rfl
              | true =>
                rcases hcand.mp hc with z | z
                · rw [z.2.2] at q3; cases q3
                · exact z.2.2.2.elim
            · rw [if_neg q3] at hmk
              have hc : gCand B mk x (cEr mi B p) = true := hcand.mpr (Or.inl ⟨q1, q2, by simpa using q3⟩)
              rw [if_neg (show ¬ (gCh B (cEr mi B p) ≠ -1 ∧ mA mi 63 (gCh B (cEr mi B p)) ≠ 0) from fun z => z.2 hmk), if_pos rfl, b9_95, d8, mm_wi (z := (r.length : Int) + 1 - 1) (by omega) (by omega), mm_wi (z := (p : Int) + 1) (by omega) (by omega), mm_andT (by omega), b9_110, show ((r.length : Int) + 1 - 1).toNat = r.length by omega]
              refine hs (cEr mi B p) ?_ (p + 1) (by omega) (fun mk2 => ?_)
              · rw [← hg, ← w2]
                exact gNx_self v5 hc
              · have := (cW_row hS (f := gNx B mk2 x) gNx_steady hp hj).2
                rw [hm] at this
                exact this.symm
          · have hne : ¬ ((if cRw mi B p ∧ gVal B (cEr mi B p) ≠ -1 then gPar B (cEr mi B p) else -1) = x) := by
              split
              · rename_i z
                exact fun y => q2 ⟨z.2, y⟩
              · omega
            rw [if_neg hne]
            refine on (skip ?_) _
            cases hc : gCand B mk x (cEr mi B p) with
            | false => rfl
            | true =>
              rcases hcand.mp hc with z | z
              · exact absurd z.2.1 q2
              · exact z.2.2.2.elim
        · rw [if_neg q1]
          refine on (skip ?_) _
          cases hc : gCand B mk x (cEr mi B p) with
          | false => rfl
          | true =>
            rcases hcand.mp hc with z | z
            · exact absurd z.1 q1
            · exact absurd z.1 q1
      · have w2 := cW_no hS (f := gNx B mk x) gNx_steady hp hj
        rw [hm, hm] at w2
        by_cases q1 : kOf B ((p / 20 : Nat) : Int) 3 = 2
        · rw [if_pos q1, b9_64, sp44 hS hp rfl rfl, mm_psh_i, b9_72, if_neg (show ¬ (cRw mi B p ∧ gVal B (cEr mi B p) ≠ -1) from fun z => hj z.1), if_neg (by omega)]
          exact on (w2.trans hg) _
        · rw [if_neg q1]
          exact on (w2.trans hg) _
  exact go p0 (by omega) none none none (t4 mk).symm
theorem cFD.pl {m1 m2 : mm_M} (h : cFD m1 m2) (p : Nat) : cPl m2 B p = cPl m1 B p := by
  unfold cPl cAt cRc cKy
  rw [h (1 + 1) (by omega), h (1 + 5) (by omega)]
/-- a row's gathering begins -/
theorem cRD_begin {C : List (Int × Nat)} {mk : Int → Bool} {out : List Int} {x : Int} {mi : mm_M} (hx : 0 ≤ x ∧ x < 600) (hR : cRD m0 mi B (C, mk, out)) (hp : 0 ≤ B 1) : cRD m0 (mm_up (mm_up (mm_up (mm_up mi 63 x.toNat 1) 64 C.length x) 65 C.length 0) 61 8 ((C.length : Int) + 1)) B (C ++ [(x, 0)], gUp mk x, out) := by
  obtain ⟨r1, r2, r3, r4, r5⟩ := hR
  refine ⟨fun i hi q hq => ?_, fun y h1 h2 => ?_, ?_, fun i hi y hy => ?_, ?_⟩
  · dsimp only at hi hq
    rw [mm_up_ne (by decide), mm_up_ne (by decide), mm_up_if, mm_up_ne (a := 61) (b := 65) (by decide), mm_up_if]
    by_cases z : i = C.length
    · rw [if_pos z, if_pos z]
      rw [z, List.getElem?_append_right (Nat.le_refl _), Nat.sub_self] at hq
      cases hq
      refine ⟨rfl, 0, rfl, by omega, fun mk2 => ?_⟩
      rfl
    · rw [if_neg z, if_neg z]
      simp only [List.length_append, List.length_cons, List.length_nil] at hi
      rw [List.getElem?_append_left (by omega)] at hq
      rw [mm_up_ne (by decide), mm_up_ne (a := 64) (b := 65) (by decide), mm_up_ne (a := 63) (b := 65) (by decide)]
      exact r1 i (by dsimp only; omega) q hq
  · rw [mm_up_ne (by decide), mm_up_ne (by decide), mm_up_ne (by decide), mm_up_if, r2 y h1 h2]
    show _ = if gUp mk x y = true then (1 : Int) else 0
    unfold gUp
    by_cases z : y = x
    · rw [if_pos (by rw [z]), if_pos z]; rfl
    · rw [if_neg (by omega), if_neg z]
  · rw [mm_up_at2 (by decide), mm_up_ne (by decide), mm_up_ne (by decide), mm_up_ne (by decide)]
    exact r3
  · rw [mm_up_ne (by decide), mm_up_ne (by decide), mm_up_ne (by decide), mm_up_ne (by decide)]
    exact r4 i hi y hy
  · rw [mm_up_at]
    simp
theorem sp6_stop {x l : Int} {o4 : Option mm_V} (z8 : mi 61 8 = 0) (hq : Q none (mm_ms0 mi h)) : mwp X 6 25 [some (.inr (some 61)), some (.inr (some 1)), some (.inl x), some (.inl l), o4] [] (mm_ms0 mi h) Q := by
  rw [b6_25, b6_32, z8, if_neg (show ¬ ((0 : Int) < 0) by decide), b6_71]
  exact ite_both hq hq
theorem sp6 (hS : cS mi 1 B) {x : Int} (hx : 0 ≤ x ∧ x < 600) (hc : 0 ≤ kCe B x) (hq : ∀ mi2, cFD mi mi2 → cRD mi mi2 B (gRes B x) → Q none (mm_ms0 mi2 h)) : mcl X 6 [.inr (some 61), .inr (some 1), .inl x] (mm_ms0 mi h) Q := by
  have hW := hS.1.1
  have hE := hS.1.ok.2.2
  have w1 := hW.2.1
  rw [c6, b6_0]
  refine sp153d ?_
  intro m1 e1 e63
  rw [mm_psh_n, b6_8]
  have hF1 : cFD mi m1 := fun a ha => e1 a (by omega)
  have hF2 : cFD mi (mm_up (mm_up m1 61 1 0) 61 8 0) := (hF1.up (by omega)).up (by omega)
  have hR0 : cRD mi (mm_up (mm_up m1 61 1 0) 61 8 0) B ([], fun _ => false, []) := by
    refine ⟨fun i hi => absurd hi (Nat.not_lt_zero _), fun y h1 h2 => ?_, ?_, fun i hi => absurd hi (Nat.not_lt_zero _), ?_⟩
    · rw [mm_up_ne (by decide), mm_up_ne (by decide), e63 _ (by omega)]; rfl
    · rw [mm_up_at2 (by decide), mm_up_at]; rfl
    · rw [mm_up_at]; rfl
  generalize mm_up (mm_up m1 61 1 0) 61 8 0 = m2 at hF2 hR0 ⊢
  have hb := cRD_begin hx hR0 w1.1
  refine sp7 (d := 0) hR0.2.2.2.2 (by decide) hx ?_
  have hF3 := ((((hF2.up (a := 63) (k := x.toNat) (v := 1) (by omega)).up (a := 64) (k := 0) (v := x) (by omega)).up (a := 65) (k := 0) (v := 0) (by omega)).up (a := 61) (k := 8) (v := ((0 : Nat) : Int) + 1) (by omega))
  have hb2 : cRD mi (mm_up (mm_up (mm_up (mm_up m2 63 x.toNat 1) 64 0 x) 65 0 0) 61 8 (((0 : Nat) : Int) + 1)) B (gIni x) := hb
  generalize mm_up (mm_up (mm_up (mm_up m2 63 x.toNat 1) 64 0 x) 65 0 0) 61 8 (((0 : Nat) : Int) + 1) = m3 at hF3 hb2 ⊢
  rw [mm_psh_n, b6_23]
  have stop : ∀ (C : gC) (m : mm_M) (l : Nat) (o4 : Option mm_V), C.1 = [] → C = gRes B x → cFD mi m → cRD mi m B C → mwp X 6 25 [some (.inr (some 61)), some (.inr (some 1)), some (.inl x), some (.inl (l : Int)), o4] [] (mm_ms0 m h) Q := by
    intro C m l o4 g1 g2 g3 g4
    have z8 : m 61 8 = 0 := by rw [g4.2.2.2.2, g1]; rfl
    exact sp6_stop z8 (hq m g3 (g2 ▸ g4))
  have loop : ∀ (d : Nat) (C : gC) (m : mm_M) (l : Nat) (o4 : Option mm_V), l + d = 240 → gInv B C → cFD mi m → cRD mi m B C → gIt B d C = gRes B x → mwp X 6 25 [some (.inr (some 61)), some (.inr (some 1)), some (.inl x), some (.inl (l : Int)), o4] [] (mm_ms0 m h) Q := by
    intro d
    induction d with
    | zero =>
      intro C m l o4 hl hI hF hR hC
      have e : C = gRes B x := hC
      exact stop C m l o4 (by rw [e]; exact gRes_nil hW hE hx hc) e hF hR
    | succ d ih =>
      intro C m l o4 hl hI hF hR hC
      obtain ⟨stk, mk, out⟩ := C
      rcases snoc_cases stk with rfl | ⟨r, q, rfl⟩
      · rw [gIt_nil] at hC
        exact stop _ m l o4 rfl hC hF hR
      · obtain ⟨y, e⟩ := q
        unfold gIt at hC
        have hlen := gAll_len hI hE
        simp only [List.length_append, List.length_cons, List.length_nil] at hlen
        have hyin := hI.1 y (by simp [gAll])
        have r5 := hR.2.2.2.2
        simp only [List.length_append, List.length_cons, List.length_nil] at r5
        have nxt : ∀ (C2 : gC) (m2 : mm_M) (v : Int), C2 = gStep B (r ++ [(y, e)], mk, out) → cFD mi m2 → cRD mi m2 B C2 → mwp X 6 65 [some (.inr (some 61)), some (.inr (some 1)), some (.inl x), some (.inl (l : Int)), some (.inl v)] [] (mm_ms0 m2 h) Q := by
          intro C2 m2 v e2 g1 g2
          rw [b6_65, mm_wi (z := (l : Int) + 1) (by omega) (by omega)]
          exact ih C2 m2 (l + 1) _ (by omega) (by rw [e2]; exact gInv_step hW hI) g1 g2 (by rw [e2]; exact hC)
        rw [b6_25, if_pos (by omega), b6_32, r5, if_pos (by omega), b6_39]
        refine sp9 (hF.S hS) (fun p => hF.pl p) hyin.1 hR (by omega) ?_ ?_
        · intro hn
          rw [mm_psh_i, b6_44, if_pos rfl, b6_52]
          obtain ⟨r1, r2, r3, r4, r6⟩ := hR
          dsimp only at r1 r2 r3 r4 r6
          obtain ⟨t1, -⟩ := r1 r.length (by simp) (y, e) (by simp)
          refine sp8 (d := r.length) (c := out.length) (by rw [r6]; simp) (by omega) r3 (by omega) ?_
          rw [mm_psh_n, b6_56]
          refine nxt (r, mk, out ++ [y]) _ _ (gStep_none hn).symm (((hF.up (by omega)).up (by omega)).up (by omega)) ⟨fun i hi q hq => ?_, fun z h1 h2 => ?_, ?_, fun i hi z hz => ?_, ?_⟩
          · rw [mm_up_ne (by decide), mm_up_ne (by decide), mm_up_ne (by decide), mm_up_ne (a := 61) (b := 65) (by decide), mm_up_ne (a := 62) (b := 65) (by decide), mm_up_ne (a := 61) (b := 65) (by decide)]
            exact r1 i (by dsimp only at hi; simp; omega) q (by dsimp only at hi hq; rw [List.getElem?_append_left hi]; exact hq)
          · rw [mm_up_ne (by decide), mm_up_ne (by decide), mm_up_ne (by decide)]
            exact r2 z h1 h2
          · rw [mm_up_at]
            simp
          · rw [mm_up_ne (by decide), mm_up_if, mm_up_ne (a := 61) (b := 62) (by decide)]
            dsimp only at hi hz
            by_cases q : i = out.length
            · rw [if_pos q, t1]
              rw [q] at hz
              simpa using hz
            · rw [if_neg q]
              have hi2 : i < out.length := by simp at hi; omega
              exact r4 i hi2 z (by rw [List.getElem?_append_left hi2] at hz; exact hz)
          · rw [mm_up_at2 (by decide), mm_up_ne (by decide), mm_up_at]
        · intro e2 hn p hp hg
          have hgs := gNx_some hn
          have hch := gCh_in hW hgs.2.1
          rw [mm_psh_i, b6_44, if_neg (by omega), b6_59]
          have hI2 := gInv_step hW hI
          rw [gStep_some hn] at hI2
          have hlen2 := gAll_len hI2 hE
          simp only [List.length_append, List.length_cons, List.length_nil] at hlen2
          obtain ⟨r1, r2, r3, r4, r6⟩ := hR
          dsimp only at r1 r2 r3 r4 r6
          have hR2 : cRD mi (mm_up m 65 r.length p) B (r ++ [(y, e2 + 1)], mk, out) := by
            refine ⟨fun i hi q hq => ?_, fun z h1 h2 => by rw [mm_up_ne (by decide)]; exact r2 z h1 h2, by rw [mm_up_ne (by decide)]; exact r3, fun i hi z hz => by rw [mm_up_ne (by decide)]; exact r4 i hi z hz, by rw [mm_up_ne (by decide)]; simpa using r6⟩
            dsimp only at hi hq
            simp only [List.length_append, List.length_cons, List.length_nil] at hi
            rw [mm_up_ne (by decide), mm_up_if]
            by_cases z : i = r.length
            · rw [if_pos z]
              have t1 := (r1 r.length (by simp) (y, e) (by simp)).1
              rw [z, List.getElem?_append_right (Nat.le_refl _), Nat.sub_self] at hq
              cases hq
              rw [z]
              exact ⟨t1, p, rfl, hp, hg⟩
            · rw [if_neg z]
              rw [List.getElem?_append_left (by omega)] at hq
              exact r1 i (by simp; omega) q (by rw [List.getElem?_append_left (by omega)]; exact hq)
          have hF4 : cFD mi (mm_up m 65 r.length p) := hF.up (by omega)
          generalize mm_up m 65 r.length p = m4 at hR2 hF4 ⊢
          have hb3 := cRD_begin hch hR2 w1.1
          have l1 : (r ++ [(y, e2 + 1)]).length = r.length + 1 := by simp
          refine sp7 (d := r.length + 1) (by rw [hR2.2.2.2.2]; simp) (by omega) hch ?_
          rw [mm_psh_n]
          refine nxt (r ++ [(y, e2 + 1)] ++ [(gCh B e2, 0)], gUp mk (gCh B e2), out) _ _ ?_ ((((hF4.up (by omega)).up (by omega)).up (by omega)).up (by omega)) ?_
          · rw [gStep_some hn]
            simp
          · rw [l1] at hb3
            exact hb3
  exact loop 240 (gIni x) m3 0 none (by omega) (gIni_inv hx hc) hF3 hb2 rfl
end CG
