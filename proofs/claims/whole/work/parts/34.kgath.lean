-- THE REFERENCE's gathers is the machine of part 33
/-- what the reference's scratch cells hold of a configuration -/
def kRel (mi : mm_M) (C : gC) : Prop :=
  (∀ i, i < C.1.length → ∀ q, C.1[i]? = some q → mi 73 i = q.1 ∧ mi 74 i = q.2) ∧ (∀ x, 0 ≤ x → x < 600 → mi 72 x.toNat = if C.2.1 x = true then 1 else 0) ∧
  mi 69 16 = C.2.2.length ∧ (∀ i, i < C.2.2.length → ∀ x, C.2.2[i]? = some x → mi 75 i = x)
/-- nothing else has changed -/
def kFr (mi0 mi : mm_M) : Prop := (∀ a, a ≠ 69 → a ≠ 72 → a ≠ 73 → a ≠ 74 → a ≠ 75 → mi a = mi0 a) ∧ ∀ k, k ≠ 16 → k ≠ 17 → mi 69 k = mi0 69 k
theorem kFr.rf {mi : mm_M} : kFr mi mi := ⟨fun _ _ _ _ _ _ => rfl, fun _ _ _ => rfl⟩
theorem kFr.tr {m1 m2 m3 : mm_M} (h1 : kFr m1 m2) (h2 : kFr m2 m3) : kFr m1 m3 := ⟨fun a h3 h4 h5 h6 h7 => (h2.1 a h3 h4 h5 h6 h7).trans (h1.1 a h3 h4 h5 h6 h7), fun k h3 h4 => (h2.2 k h3 h4).trans (h1.2 k h3 h4)⟩
theorem mm_up_ne {mi : mm_M} {a k b : Nat} {v : Int} (h : b ≠ a) : mm_up mi a k v b = mi b := by
  funext j
  unfold mm_up
  rw [if_neg h]
theorem mm_up_at {mi : mm_M} {a k : Nat} {v : Int} : mm_up mi a k v a k = v := by
  unfold mm_up
  rw [if_pos rfl, if_pos rfl]
theorem mm_up_at2 {mi : mm_M} {a k j : Nat} {v : Int} (h : j ≠ k) : mm_up mi a k v a j = mi a j := by
  unfold mm_up
  rw [if_pos rfl, if_neg h]
theorem mm_up_if {mi : mm_M} {a k j : Nat} {v : Int} : mm_up mi a k v a j = if j = k then v else mi a j := by
  unfold mm_up
  rw [if_pos rfl]
theorem kFr.up {m1 m2 : mm_M} {a k : Nat} {v : Int} (h : kFr m1 m2) (ha : a = 72 ∨ a = 73 ∨ a = 74 ∨ a = 75 ∨ (a = 69 ∧ (k = 16 ∨ k = 17))) : kFr m1 (mm_up m2 a k v) := by
  refine ⟨fun q h3 h4 h5 h6 h7 => ?_, fun j h3 h4 => ?_⟩
  · rw [mm_up_ne (by omega)]
    exact h.1 q h3 h4 h5 h6 h7
  · by_cases q : 69 = a
    · subst q
      rw [mm_up_at2 (by omega)]
      exact h.2 j h3 h4
    · rw [mm_up_ne q]
      exact h.2 j h3 h4
theorem kFr.B {m1 m2 : mm_M} (h : kFr m1 m2) (b : Int) : mB m2 b = mB m1 b := by
  unfold mB
  rw [h.1 70 (by decide) (by decide) (by decide) (by decide) (by decide)]
section KG
variable {X : Nat × (Nat → Int)} {mi : mm_M} {h : mm_H} {Q : Option mm_V → mm_S → Prop} {b : Int}
/-- the loop's head -/
abbrev kHead (X : Nat × (Nat → Int)) (b x0 : Int) (d : Nat) (o4 o5 o6 : Option mm_V) (mi : mm_M) (h : mm_H) (Q : Option mm_V → mm_S → Prop) : Prop := mwp X 104 35 [some (.inr (some 69)), some (.inl b), some (.inl x0), some (.inl (d : Int)), o4, o5, o6] [] (mm_ms0 mi h) Q
theorem kGath_step (hb : kb b) {mi0 : mm_M} (hW : kWr (mB mi0 b)) (hE : (gEx (mB mi0 b)).length ≤ 120) {x0 : Int} {r : List (Int × Nat)} {x : Int} {mk : Int → Bool} {out : List Int} : ∀ (d e : Nat) (mi : mm_M) (o4 o5 o6 : Option mm_V), e + d = gR (mB mi0 b) → gInv (mB mi0 b) (r ++ [(x, e)], mk, out) → kFr mi0 mi → kRel mi (r ++ [(x, e)], mk, out) →
    (∀ (mi2 : mm_M) (o4 o5 o6 : Option mm_V), kFr mi0 mi2 → kRel mi2 (gStep (mB mi0 b) (r ++ [(x, e)], mk, out)) → kHead X b x0 (gStep (mB mi0 b) (r ++ [(x, e)], mk, out)).1.length o4 o5 o6 mi2 h Q) →
    kHead X b x0 (r.length + 1) o4 o5 o6 mi h Q := by
  have hb' := hb
  unfold kb at hb
  intro d
  induction d with
  | zero =>
    intro e mi o4 o5 o6 hd hI hF hR hk
    have hlen := gAll_len hI hE
    simp only [List.length_append, List.length_cons, List.length_nil] at hlen
    obtain ⟨r1, r2, r3, r4⟩ := hR
    have htop := r1 r.length (by simp) (x, e) (by simp)
    have h1 := hW.2.1
    have hgr : (gR (mB mi0 b) : Int) = 100 * mB mi0 b 1 := by unfold gR; omega
    rw [gStep_none (gNx_end (by omega))] at hk
    show kHead X b x0 (r.length + 1) o4 o5 o6 mi h Q
    rw [kHead, b104_35, if_pos (by omega), b104_39, mm_wi (z := ((r.length + 1 : Nat) : Int) - 1) (by omega) (by omega)]
    refine ⟨by omega, ?_⟩
    rw [b104_47, mm_wi (z := b + 1) (by omega) (by omega)]
    refine ⟨by omega, ?_⟩
    rw [mB_1 mi (by omega), hF.B, b104_61, mm_wi (z := 100 * mB mi0 b 1) (by omega) (by omega), show (((r.length + 1 : Nat) : Int) - 1).toNat = r.length by omega, htop.2, if_pos (by dsimp only; omega), b104_65, mm_wi (z := ((r.length + 1 : Nat) : Int) - 1) (by omega) (by omega)]
    refine ⟨by omega, ?_⟩
    rw [b104_81, r3]
    dsimp only
    refine ⟨by omega, ?_⟩
    rw [b104_82, b104_205, show (((r.length + 1 : Nat) : Int) - 1).toNat = r.length by omega, htop.1, mm_up_ne (by decide), r3]
    dsimp only
    rw [mm_wi (z := (out.length : Int) + 1) (by omega) (by omega), mm_wi (z := ((r.length + 1 : Nat) : Int) + -1) (by omega) (by omega), show ((r.length + 1 : Nat) : Int) + -1 = (r.length : Int) by omega, show (out.length : Int).toNat = out.length by omega]
    refine hk _ _ _ _ ((hF.up (by omega)).up (by omega)) ⟨fun i hi q hq => ?_, fun y hy1 hy2 => ?_, ?_, fun i hi y hy => ?_⟩
    · have h5 := r1 i (by simp; dsimp only at hi; omega) q (by rw [List.getElem?_append_left hi]; exact hq)
      rw [mm_up_ne (by decide), mm_up_ne (by decide), mm_up_ne (by decide), mm_up_ne (by decide)]
      exact h5
    · rw [mm_up_ne (by decide), mm_up_ne (by decide)]
      exact r2 y hy1 hy2
    · rw [mm_up_at]
      simp
    · rw [mm_up_ne (by decide), mm_up_if]
      by_cases q : i = out.length
      · rw [if_pos q]
        rw [q] at hy
        simpa using hy
      · rw [if_neg q]
        have hi2 : i < out.length := by simp at hi; omega
        exact r4 i hi2 y (by rw [List.getElem?_append_left hi2] at hy; exact hy)
  | succ d ih =>
    intro e mi o4 o5 o6 hd hI hF hR hk
    have hlen := gAll_len hI hE
    simp only [List.length_append, List.length_cons, List.length_nil] at hlen
    have hR' := hR
    obtain ⟨r1, r2, r3, r4⟩ := hR
    have htop := r1 r.length (by simp) (x, e) (by simp)
    have h1 := hW.2.1
    have hgr : (gR (mB mi0 b) : Int) = 100 * mB mi0 b 1 := by unfold gR; omega
    have hel : e < gR (mB mi0 b) := by omega
    have hch := gCh_in hW hel
    have hxin := hI.1 x (by simp [gAll])
    have hrr : ((e / 100 : Nat) : Int) < mB mi0 b 1 := by omega
    have hg := (hW.2.2.1 ((e / 100 : Nat) : Int) (by omega) hrr)
    have g0 := hg.1
    have g6 := hW.1
    have hBm := hF.B b
    have he1 : Int.tdiv (e : Int) 100 = ((e / 100 : Nat) : Int) := by rw [Int.tdiv_eq_ediv_of_nonneg (by omega)]; omega
    have he2 : Int.tmod (e : Int) 100 = ((e % 100 : Nat) : Int) := by rw [Int.tmod_eq_emod_of_nonneg (by omega)]; omega
    show kHead X b x0 (r.length + 1) o4 o5 o6 mi h Q
    rw [kHead, b104_35, if_pos (by omega), b104_39, mm_wi (z := ((r.length + 1 : Nat) : Int) - 1) (by omega) (by omega)]
    refine ⟨by omega, ?_⟩
    rw [b104_47, mm_wi (z := b + 1) (by omega) (by omega)]
    refine ⟨by omega, ?_⟩
    rw [mB_1 mi (by omega), hBm, b104_61, mm_wi (z := 100 * mB mi0 b 1) (by omega) (by omega), show (((r.length + 1 : Nat) : Int) - 1).toNat = r.length by omega, htop.2, if_neg (by dsimp only; omega), b104_98, mm_wi (z := ((r.length + 1 : Nat) : Int) - 1) (by omega) (by omega)]
    dsimp only
    refine ⟨by omega, ?_⟩
    rw [b104_107, show (((r.length + 1 : Nat) : Int) - 1).toNat = r.length by omega, htop.2]
    dsimp only
    refine ⟨by omega, ?_⟩
    have hF2 : kFr mi0 (mm_up mi 74 (((r.length + 1 : Nat) : Int) - 1).toNat (mm_w ((e : Int) + 1))) := hF.up (by omega)
    rw [mm_wi (z := (e : Int) + 1) (by omega) (by omega)] at hF2 ⊢
    rw [show (((r.length + 1 : Nat) : Int) - 1).toNat = r.length by omega] at hF2
    have hB2 := hF2.B b
    have hW2 : kWr (mB (mm_up mi 74 r.length ((e : Int) + 1)) b) := by rw [hB2]; exact hW
    rw [b104_110, he1, sp95 hb' (by omega) (by omega), mm_psh_i, b104_123, he1, sp95 hb' (by omega) (by omega), mm_psh_i, b104_143, he2, hB2]
    rw [mm_wi (z := 100 * kOf (mB mi0 b) ((e / 100 : Nat) : Int) 0) (by omega) (by omega), mm_wi (z := 100 * kOf (mB mi0 b) ((e / 100 : Nat) : Int) 0 + ((e % 100 : Nat) : Int)) (by omega) (by omega)]
    rw [show 100 * kOf (mB mi0 b) ((e / 100 : Nat) : Int) 0 + ((e % 100 : Nat) : Int) = gCh (mB mi0 b) e from rfl]
    -- the place has moved on by one
    have hR2 : kRel (mm_up mi 74 r.length ((e : Int) + 1)) (r ++ [(x, e + 1)], mk, out) := by
      refine ⟨fun i hi q hq => ?_, fun y hy1 hy2 => ?_, ?_, fun i hi y hy => ?_⟩
      · rw [mm_up_ne (by decide), mm_up_if]
        dsimp only at hi hq
        simp only [List.length_append, List.length_cons, List.length_nil] at hi
        by_cases q2 : i = r.length
        · rw [if_pos q2]
          rw [q2, List.getElem?_append_right (Nat.le_refl _), Nat.sub_self] at hq
          cases hq
          rw [q2]
          exact ⟨htop.1, rfl⟩
        · rw [if_neg q2]
          rw [List.getElem?_append_left (by omega)] at hq
          exact r1 i (by simp; omega) q (by rw [List.getElem?_append_left (by omega)]; exact hq)
      · rw [mm_up_ne (by decide)]; exact r2 y hy1 hy2
      · rw [mm_up_ne (by decide)]; exact r3
      · rw [mm_up_ne (by decide)]; exact r4 i hi y hy
    have no : gCand (mB mi0 b) mk x e = false → ∀ o5 o6 : Option mm_V, kHead X b x0 (r.length + 1) (some (.inl (e : Int))) o5 o6 (mm_up mi 74 r.length ((e : Int) + 1)) h Q := by
      intro hc o5 o6
      have hn := gNx_next hel hc
      have hI2 : gInv (mB mi0 b) (r ++ [(x, e + 1)], mk, out) := by
        obtain ⟨i1, i2, i3, i4, i5⟩ := hI
        refine ⟨fun z hz => i1 z (by simpa [gAll] using hz), by simpa [gAll] using i2, fun z => (i3 z).trans (by simp [gAll]), fun q hq => ?_, i5⟩
        rcases List.mem_append.mp hq with hq | hq
        · exact i4 q (List.mem_append_left _ hq)
        · have := List.mem_singleton.mp hq
          subst this
          refine ⟨by dsimp only; omega, fun e3 h6 h7 => ?_⟩
          obtain ⟨-, k2⟩ := i4 (x, e) (List.mem_append_right _ List.mem_cons_self)
          dsimp only at h6
          by_cases q1 : e3 < e
          · exact k2 e3 q1 h7
          · have q2 : e3 = e := by omega
            subst q2
            cases hmk : mk (gCh (mB mi0 b) e3) with
            | true => exact hmk
            | false =>
              rw [gCand_iff.mpr ⟨h7, hmk⟩] at hc
              cases hc
      refine ih (e + 1) _ _ _ _ (by omega) hI2 hF2 hR2 ?_
      cases hx : gNx (mB mi0 b) mk x (e + 1) with
      | some e2 =>
        rw [gStep_some hx]
        rw [gStep_some (hn.trans hx)] at hk
        exact hk
      | none =>
        rw [gStep_none hx]
        rw [gStep_none (hn.trans hx)] at hk
        exact hk
    by_cases q1 : kOf (mB mi0 b) ((e / 100 : Nat) : Int) 3 = 2
    · rw [if_pos q1, b104_147]
      refine ⟨by omega, ?_⟩
      rw [b104_154, mm_up_ne (by decide), r2 _ hch.1 hch.2, mm_ite0]
      dsimp only
      by_cases q2 : mk (gCh (mB mi0 b) e) = true
      · rw [if_pos q2, b104_187, b104_188, if_pos rfl, b104_205]
        refine no ?_ _ _
        cases hc : gCand (mB mi0 b) mk x e with
        | false => rfl
        | true => rw [(gCand_iff.mp hc).2] at q2; cases q2
      · rw [if_neg q2, b104_157, mm_wi (z := ((r.length + 1 : Nat) : Int) - 1) (by omega) (by omega)]
        refine ⟨by omega, ?_⟩
        rw [b104_177, he1, he2, mm_up_ne (by decide), show (((r.length + 1 : Nat) : Int) - 1).toNat = r.length by omega, htop.1]
        dsimp only
        refine sp102 hb' hW2 ⟨by omega, by rw [hB2]; exact hrr⟩ (by omega) hxin.1 ?_
        rw [mm_psh_i, b104_180, mm_ite0, hB2]
        by_cases q3 : kIsCh (mB mi0 b) ((e / 100 : Nat) : Int) ((e % 100 : Nat) : Int) x
        · have hc : gCand (mB mi0 b) mk x e = true := gCand_iff.mpr ⟨⟨q1, q3⟩, by simpa using q2⟩
          rw [gStep_some (gNx_self hel hc)] at hk
          rw [if_pos q3, b104_183, b104_188, if_neg (by decide), b104_195]
          have hI3 := gInv_step hW hI
          rw [gStep_some (gNx_self hel hc)] at hI3
          have hl3 := gAll_len hI3 hE
          simp only [List.length_append, List.length_cons, List.length_nil] at hl3
          refine sp103 (by omega) hch ?_
          rw [mm_psh_n, b104_202, b104_205, mm_wi (z := ((r.length + 1 : Nat) : Int) + 1) (by omega) (by omega), show ((r.length + 1 : Nat) : Int).toNat = r.length + 1 by omega]
          have hfin := hk (mm_up (mm_up (mm_up (mm_up mi 74 r.length ((e : Int) + 1)) 72 (gCh (mB mi0 b) e).toNat 1) 73 (r.length + 1) (gCh (mB mi0 b) e)) 74 (r.length + 1) 0) (some (.inl (e : Int))) (some (.inl (gCh (mB mi0 b) e))) (some (.inl 1)) (((hF2.up (by omega)).up (by omega)).up (by omega)) ?_
          · simp only [List.length_append, List.length_cons, List.length_nil] at hfin
            exact hfin
          · refine ⟨fun i hi q hq => ?_, fun y hy1 hy2 => ?_, ?_, fun i hi y hy => ?_⟩
            · dsimp only at hi hq
              simp only [List.length_append, List.length_cons, List.length_nil] at hi
              rw [mm_up_ne (by decide), mm_up_if, mm_up_if, mm_up_ne (by decide)]
              by_cases q4 : i = r.length + 1
              · rw [if_pos q4, if_pos q4]
                rw [q4, List.getElem?_append_right (by omega), show r.length + 1 - r.length = 1 by omega] at hq
                cases hq
                exact ⟨rfl, rfl⟩
              · rw [if_neg q4, if_neg q4]
                have := hR2.1 i (by simp; omega) q (by
                  by_cases q5 : i < r.length
                  · rw [List.getElem?_append_left q5] at hq ⊢; exact hq
                  · rw [List.getElem?_append_right (by omega), show i - r.length = 0 by omega] at hq ⊢; exact hq)
                rw [mm_up_ne (by decide)]
                exact this
            · rw [mm_up_ne (by decide), mm_up_ne (by decide), mm_up_if, hR2.2.1 y hy1 hy2]
              by_cases q4 : y = gCh (mB mi0 b) e
              · have q5 : gUp mk (gCh (mB mi0 b) e) y = true := by unfold gUp; rw [if_pos q4]
                rw [if_pos (by rw [q4])]
                exact (if_pos q5).symm
              · have q5 : gUp mk (gCh (mB mi0 b) e) y = mk y := by unfold gUp; rw [if_neg q4]
                rw [if_neg (by omega)]
                show _ = if gUp mk (gCh (mB mi0 b) e) y = true then (1 : Int) else 0
                rw [q5]
            · rw [mm_up_ne (by decide), mm_up_ne (by decide), mm_up_ne (by decide)]
              exact hR2.2.2.1
            · rw [mm_up_ne (by decide), mm_up_ne (by decide), mm_up_ne (by decide)]
              exact hR2.2.2.2 i hi y hy
        · rw [if_neg q3, b104_187, b104_188, if_pos rfl, b104_205]
          refine no ?_ _ _
          cases hc : gCand (mB mi0 b) mk x e with
          | false => rfl
          | true => exact absurd (gCand_iff.mp hc).1.2 q3
    · rw [if_neg q1, b104_187, b104_188, if_pos rfl, b104_205]
      refine no ?_ _ _
      cases hc : gCand (mB mi0 b) mk x e with
      | false => rfl
      | true => exact absurd (gCand_iff.mp hc).1.1 q1
end KG
section KG2
variable {X : Nat × (Nat → Int)} {mi : mm_M} {h : mm_H} {Q : Option mm_V → mm_S → Prop} {b : Int}
theorem kGath_loop (hb : kb b) {mi0 : mm_M} (hW : kWr (mB mi0 b)) (hE : (gEx (mB mi0 b)).length ≤ 120) {x0 : Int} {Cf : gC} (hq : ∀ mi2, kFr mi0 mi2 → kRel mi2 Cf → Q none (mm_ms0 mi2 h)) : ∀ (n : Nat) (C : gC) (mi : mm_M) (o4 o5 o6 : Option mm_V), gInv (mB mi0 b) C → kFr mi0 mi → kRel mi C → gIt (mB mi0 b) n C = Cf → Cf.1 = [] → kHead X b x0 C.1.length o4 o5 o6 mi h Q := by
  have stop : ∀ (C : gC) (mi : mm_M) (o4 o5 o6 : Option mm_V), C.1 = [] → C = Cf → kFr mi0 mi → kRel mi C → kHead X b x0 C.1.length o4 o5 o6 mi h Q := by
    intro C mi o4 o5 o6 h1 h2 h3 h4
    rw [h1]
    rw [kHead, b104_35, if_neg (by simp), b104_208]
    exact hq mi h3 (h2 ▸ h4)
  intro n
  induction n with
  | zero =>
    intro C mi o4 o5 o6 hI hF hR hC h0
    have e1 : C = Cf := hC
    exact stop C mi o4 o5 o6 (e1 ▸ h0) e1 hF hR
  | succ n ih =>
    intro C mi o4 o5 o6 hI hF hR hC h0
    obtain ⟨stk, mk, out⟩ := C
    rcases snoc_cases stk with rfl | ⟨r, q, rfl⟩
    · rw [gIt_nil] at hC
      exact stop _ mi o4 o5 o6 rfl hC hF hR
    · obtain ⟨x, e⟩ := q
      unfold gIt at hC
      have he : e ≤ gR (mB mi0 b) := (hI.2.2.2.1 (x, e) (List.mem_append_right _ List.mem_cons_self)).1
      have h1 := kGath_step (X := X) (h := h) (Q := Q) hb hW hE (x0 := x0) (gR (mB mi0 b) - e) e mi o4 o5 o6 (by omega) hI hF hR (fun mi2 o4 o5 o6 g1 g2 => ih _ mi2 o4 o5 o6 (gInv_step hW hI) g1 g2 hC h0)
      simpa using h1
theorem sp104 (hb : kb b) (hW : kWr (mB mi b)) (hE : (gEx (mB mi b)).length ≤ 120) {x0 : Int} (hx : 0 ≤ x0 ∧ x0 < 600) (hc : 0 ≤ kCe (mB mi b) x0) (hq : ∀ mi2, kFr mi mi2 → kRel mi2 (gRes (mB mi b) x0) → Q none (mm_ms0 mi2 h)) : mcl X 104 [.inr (some 69), .inl b, .inl x0] (mm_ms0 mi h) Q := by
  rw [c104, b104_0]
  refine mm_for (fun n => ∀ mi2, kFr mi mi2 → (∀ i, i < n → mi2 72 i = 0) → mwp X 104 2 [some (.inr (some 69)), some (.inl b), some (.inl x0), some (.inl n), none, none, none] [] (mm_ms0 mi2 h) Q) 600 ?_ ?_ 0 (Nat.zero_le _) mi kFr.rf (fun i hi => absurd hi (Nat.not_lt_zero _))
  · intro mi2 hF h0
    rw [b104_2, if_neg (by omega), b104_22]
    refine sp103 (by omega) hx ?_
    rw [mm_psh_n]
    have hin := gIni_inv hx hc
    refine kGath_loop hb hW hE hq 240 (gIni x0) _ _ _ _ hin ((((hF.up (by omega)).up (by omega)).up (by omega)).up (by omega)) ⟨fun i hi q hq => ?_, fun y hy1 hy2 => ?_, ?_, fun i hi => absurd hi (Nat.not_lt_zero _)⟩ rfl (gIt_end hW hE 240 _ hin (by show 2 * (120 - (1 + 0)) + 1 ≤ 240; omega))
    · have hi : i < 1 := hi
      have e1 : i = 0 := by omega
      subst e1
      cases hq
      rw [mm_up_ne (by decide)]
      exact ⟨mm_up_at, mm_up_at⟩
    · rw [mm_up_ne (by decide), mm_up_ne (by decide), mm_up_if, mm_up_ne (by decide), h0 _ (by omega)]
      show _ = if gUp (fun _ => false) x0 y = true then (1 : Int) else 0
      unfold gUp
      by_cases q4 : y = x0
      · rw [if_pos (by rw [q4]), if_pos q4]; rfl
      · rw [if_neg (by omega), if_neg q4]; rfl
    · rw [mm_up_ne (by decide), mm_up_ne (by decide), mm_up_ne (by decide), mm_up_at]
      rfl
  · intro n hn ih mi2 hF h0
    rw [b104_2, if_pos (by omega), b104_9]
    refine ⟨⟨by omega, Or.inl rfl⟩, ?_⟩
    rw [b104_16, mm_wi (by omega) (by omega)]
    refine ih _ (hF.up (by omega)) (fun i hi => ?_)
    rw [mm_up_if]
    split
    · rfl
    · exact h0 i (by omega)
end KG2
