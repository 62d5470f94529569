-- THE CLASS: its history remembers, drops, brings back
section CHJ
variable {X : Nat × (Nat → Int)} {mi : mm_M} {h : mm_H} {Q : Option mm_V → mm_S → Prop} {Bs : Nat → Int → Int} {n : Int}
theorem hOk_4 (hh : hOk h) : ∃ a b c d, h = [a, b, c, d] ∧ (hSt a ∧ hSt b ∧ hSt c ∧ hSt d) ∧ a ≠ b ∧ a ≠ c ∧ a ≠ d ∧ b ≠ c ∧ b ≠ d ∧ c ≠ d := by
  obtain ⟨h1, h2, h3⟩ := hh
  match h, h1 with
  | [a, b, c, d], _ =>
    exact ⟨a, b, c, d, rfl, ⟨h2 0 (by decide), h2 1 (by decide), h2 2 (by decide), h2 3 (by decide)⟩, h3 0 1 (by decide) (by decide) (by decide), h3 0 2 (by decide) (by decide) (by decide), h3 0 3 (by decide) (by decide) (by decide), h3 1 2 (by decide) (by decide) (by decide), h3 1 3 (by decide) (by decide) (by decide), h3 2 3 (by decide) (by decide) (by decide)⟩
theorem hOk_mk {a b c d : Nat} (hs : hSt a ∧ hSt b ∧ hSt c ∧ hSt d) (hn : a ≠ b ∧ a ≠ c ∧ a ≠ d ∧ b ≠ c ∧ b ≠ d ∧ c ≠ d) : hOk [a, b, c, d] := by
  refine ⟨rfl, fun i hi => ?_, fun i j hi hj hij => ?_⟩
  · match i, hi with
    | 0, _ => exact hs.1
    | 1, _ => exact hs.2.1
    | 2, _ => exact hs.2.2.1
    | 3, _ => exact hs.2.2.2
  · obtain ⟨n1, n2, n3, n4, n5, n6⟩ := hn
    match i, hi, j, hj with
    | 0, _, 0, _ => exact absurd rfl hij
    | 0, _, 1, _ => exact n1
    | 0, _, 2, _ => exact n2
    | 0, _, 3, _ => exact n3
    | 1, _, 0, _ => exact n1.symm
    | 1, _, 1, _ => exact absurd rfl hij
    | 1, _, 2, _ => exact n4
    | 1, _, 3, _ => exact n5
    | 2, _, 0, _ => exact n2.symm
    | 2, _, 1, _ => exact n4.symm
    | 2, _, 2, _ => exact absurd rfl hij
    | 2, _, 3, _ => exact n6
    | 3, _, 0, _ => exact n3.symm
    | 3, _, 1, _ => exact n5.symm
    | 3, _, 2, _ => exact n6.symm
    | 3, _, 3, _ => exact absurd rfl hij
theorem sp19 {a b c d : Nat} (hs : hSt a ∧ hSt b ∧ hSt c ∧ hSt d) (hq : Q none (mm_ms0 (mm_up mi 25 1 (mm_w (mi 25 1 - 1))) [b, c, d, a])) : mcl X 19 [.inr (some 25)] (mm_ms0 mi [a, b, c, d]) Q := by
  obtain ⟨ha, hb, hc, hd⟩ := hs
  rw [c19, b19_0 rfl, mm_andT (by decide), b19_6, b19_9, if_pos (by decide), b19_14 rfl, mm_andT (by decide), mm_wi (z := 1 - 1) (by decide) (by decide), b19_27 rfl]
  refine ⟨⟨by decide, mm_isc_st hb⟩, ?_⟩
  rw [b19_28, mm_wi (z := 1 + 1) (by decide) (by decide), b19_9, if_pos (by decide), b19_14 rfl, mm_andT (by decide), mm_wi (z := 1 + 1 - 1) (by decide) (by decide), b19_27 rfl]
  refine ⟨⟨by decide, mm_isc_st hc⟩, ?_⟩
  rw [b19_28, mm_wi (z := 1 + 1 + 1) (by decide) (by decide), b19_9, if_pos (by decide), b19_14 rfl, mm_andT (by decide), mm_wi (z := 1 + 1 + 1 - 1) (by decide) (by decide), b19_27 rfl]
  refine ⟨⟨by decide, mm_isc_st hd⟩, ?_⟩
  rw [b19_28, mm_wi (z := 1 + 1 + 1 + 1) (by decide) (by decide), b19_9, if_neg (by decide), b19_34 rfl]
  refine ⟨⟨by decide, mm_isc_st ha⟩, ?_⟩
  rw [b19_41]
  exact hq
theorem cSB.co {m1 m2 : mm_M} {a : Nat} {B : Int → Int} (hS : cSB m1 a B) (e : ∀ i, i < 8 → m2 (a + i) = m1 (a + i)) : cSB m2 a B := ⟨hS.1.co e, hS.2⟩
theorem hSt_far {x y : Nat} (hx : hSt x) (hy : hSt y) (hn : x ≠ y) : x + 8 ≤ y ∨ y + 8 ≤ x := by
  unfold hSt at hx hy
  omega
/-- at the place where the state is laid -/
theorem sp18a {p : Nat} (hp : p = 1 ∨ p = 9) {B : Int → Int} (hH : cHi mi h Bs n) (hn : n < 4) (hB : cSB mi p B) (hq : ∀ m2, cHi m2 h (fun i => if (i : Int) = n + 1 then B else Bs i) (n + 1) → (∀ x, x < 25 ∨ 58 < x → m2 x = mi x) → Q none (mm_ms0 m2 h)) : mwp X 18 12 [some (.inr (some 25)), some (.inr (some p))] [] (mm_ms0 mi h) Q := by
  obtain ⟨hh, hn4, h25, hst⟩ := hH
  have hx := hh.2.1 n.toNat (by omega)
  rw [b18_12 hh.1, h25, mm_andT (by omega), b18_21 hx]
  refine sp34h hx hp ?_
  intro M hC hF
  have hxr : 27 ≤ h.getD n.toNat 0 ∧ h.getD n.toNat 0 ≤ 51 := by unfold hSt at hx; omega
  have e25 : M 25 1 = n := by rw [hF 25 (by omega)]; exact h25
  rw [mm_psh_n, b18_25, e25, mm_wi (z := n + 1) (by omega) (by omega)]
  refine hq _ ⟨hh, by omega, by rw [mm_up_at], fun i hi => ?_⟩ (fun x hx2 => by rw [mm_up_ne (by omega), hF x (by omega)])
  dsimp only
  by_cases q : (i : Int) = n
  · rw [if_pos (by omega), show i = n.toNat by omega]
    refine cSB.co (m1 := M) ⟨hB.1.cp hC, hB.2⟩ (fun j hj => by rw [mm_up_ne (by omega)])
  · rw [if_neg (by omega)]
    have hs := hst i (by omega)
    have hxi := hh.2.1 i (by omega)
    have far := hSt_far hxi hx (hh.2.2 i n.toNat (by omega) (by omega) (by omega))
    have hxir : 27 ≤ h.getD i 0 ∧ h.getD i 0 ≤ 51 := by unfold hSt at hxi; omega
    exact hs.co (fun j hj => by rw [mm_up_ne (by omega), hF _ (by omega)])
theorem cHi.eq {Bs2 : Nat → Int → Int} (hH : cHi mi h Bs n) (e : ∀ i : Nat, 1 ≤ i → (i : Int) ≤ n → Bs2 i = Bs i) : cHi mi h Bs2 n := by
  obtain ⟨h1, h2, h3, h4⟩ := hH
  exact ⟨h1, h2, h3, fun i hi => by rw [e (i + 1) (by omega) (by omega)]; exact h4 i hi⟩
theorem sp18 {p : Nat} (hp : p = 1 ∨ p = 9) {B : Int → Int} (hH : cHi mi h Bs n) (hB : cSB mi p B) (hq : ∀ m2 h2, cHi m2 h2 (aPush Bs n B) (kAccN n) → (∀ x, x < 25 ∨ 58 < x → m2 x = mi x) → Q none (mm_ms0 m2 h2)) : mcl X 18 [.inr (some 25), .inr (some p)] (mm_ms0 mi h) Q := by
  have hH' := hH
  obtain ⟨hh, hn4, h25, hst⟩ := hH
  rw [c18, b18_0, h25]
  by_cases q : n < 4
  · rw [if_pos q]
    have ek : kAccN n = n + 1 := by unfold kAccN; rw [if_pos q]
    refine sp18a hp hH' q hB (fun m2 g1 g2 => hq m2 h ?_ g2)
    rw [ek]
    refine g1.eq (fun i h1 h2 => ?_)
    unfold aPush
    rw [ek]
    by_cases z : (i : Int) = n + 1
    · rw [if_pos z, if_pos z]
    · rw [if_neg z, if_neg z, if_neg (by omega)]
  · have n4 : n = 4 := by omega
    subst n4
    have ek : kAccN 4 = 4 := by unfold kAccN; rw [if_neg (by decide)]
    obtain ⟨a, b, c, d, rfl, hs, n1, n2, n3, n4, n5, n6⟩ := hOk_4 hh
    rw [if_neg (by decide), b18_8]
    refine sp19 hs ?_
    rw [mm_psh_n, h25, mm_wi (z := 4 - 1) (by decide) (by decide)]
    have hh2 : hOk [b, c, d, a] := hOk_mk ⟨hs.2.1, hs.2.2.1, hs.2.2.2, hs.1⟩ ⟨n4, n5, n1.symm, n6, n2.symm, n3.symm⟩
    have hH2 : cHi (mm_up mi 25 1 (4 - 1)) [b, c, d, a] (fun i => Bs (i + 1)) 3 := by
      refine ⟨hh2, by decide, by rw [mm_up_at]; rfl, fun i hi => ?_⟩
      have hs2 := hst (i + 1) (by omega)
      have hg : [b, c, d, a].getD i 0 = [a, b, c, d].getD (i + 1) 0 := by
        match i, (show i < 3 by omega) with
        | 0, _ => rfl
        | 1, _ => rfl
        | 2, _ => rfl
      have hx := hh.2.1 (i + 1) (by omega)
      rw [hg]
      unfold hSt at hx
      exact hs2.co (fun j hj => by rw [mm_up_ne (by omega)])
    refine sp18a hp hH2 (by decide) (hB.co (fun j hj => by rw [mm_up_ne (by omega)])) (fun m2 g1 g2 => hq m2 _ ?_ (fun x hx => by rw [g2 x hx, mm_up_ne (by omega)]))
    rw [ek]
    refine cHi.eq (n := 4) g1 (fun i h1 h2 => ?_)
    unfold aPush
    rw [ek]
    by_cases z : (i : Int) = 4
    · rw [if_pos z, if_pos (by omega)]
    · rw [if_neg z, if_pos rfl, if_neg (by omega)]
theorem sp20 (hH : cHi mi h Bs n) (h0 : n = 0 → Q (some (.inl (-9))) (mm_ms0 mi h)) (h1 : 1 ≤ n → ∀ m2, cHi m2 h Bs (n - 1) → cSB m2 1 (Bs n.toNat) → (∀ x, x = 0 ∨ (8 < x ∧ x < 25) ∨ 58 < x → m2 x = mi x) → Q (some (.inl (n - 1))) (mm_ms0 m2 h)) : mcl X 20 [.inr (some 25), .inr (some 1)] (mm_ms0 mi h) Q := by
  obtain ⟨hh, hn4, h25, hst⟩ := hH
  rw [c20, b20_0, h25]
  by_cases q : n = 0
  · rw [if_pos q, b20_7]
    exact h0 q
  · have hx := hh.2.1 (n - 1).toNat (by omega)
    have hxr : 27 ≤ h.getD (n - 1).toNat 0 ∧ h.getD (n - 1).toNat 0 ≤ 51 := by unfold hSt at hx; omega
    rw [if_neg q, b20_10 hh.1, h25, mm_wi (z := n - 1) (by omega) (by omega), mm_andT (by omega), b20_30]
    refine sp34b hx ?_
    intro M hC hF
    have e25 : M 25 1 = n - 1 := by rw [hF 25 (by omega), mm_up_at]
    rw [mm_psh_n, b20_33, e25]
    have hs := hst (n - 1).toNat (by omega)
    refine h1 (by omega) M ⟨hh, by omega, e25, fun i hi => ?_⟩ ?_ (fun x hx2 => by rw [hF x (by omega), mm_up_ne (by omega)])
    · have hxi := hh.2.1 i (by omega)
      have hxir : 27 ≤ h.getD i 0 ∧ h.getD i 0 ≤ 51 := by unfold hSt at hxi; omega
      exact (hst i (by omega)).co (fun j hj => by rw [hF _ (by omega), mm_up_ne (by omega)])
    · rw [show (n - 1).toNat + 1 = n.toNat by omega] at hs
      have hs2 : cSB (mm_up mi 25 1 (n - 1)) (h.getD (n - 1).toNat 0) (Bs n.toNat) := hs.co (fun j hj => by rw [mm_up_ne (by omega)])
      exact ⟨hs2.1.cp hC, hs2.2⟩
end CHJ
