-- THE CLASS: its history
theorem cS.cp {mi M : mm_M} {a b : Nat} {B : Int → Int} (hS : cS mi b B) (hC : cCpd mi M a b) : cS M a B := by
  obtain ⟨hI, ⟨d0, d1, d2, d3, d4, d5⟩, ⟨f1, f2⟩, ⟨g1, g2⟩, ht⟩ := hS
  obtain ⟨⟨k0, k1, k9, k10, k11, k12⟩, hc⟩ := hC
  have c1 : ∀ k, k < 6 → M (a + 1) k = mi (b + 1) k := fun k hk => hc 0 (by decide) k hk
  have c2 : ∀ k, k < 6 → M (a + 2) k = mi (b + 2) k := fun k hk => hc 1 (by decide) k hk
  have c3 : ∀ k, k < 12 → M (a + 3) k = mi (b + 3) k := fun k hk => hc 2 (by decide) k hk
  have c4 : ∀ k, k < 72 → M (a + 4) k = mi (b + 4) k := fun k hk => hc 3 (by decide) k hk
  have c5 : ∀ k, k < 120 → M (a + 5) k = mi (b + 5) k := fun k hk => hc 4 (by decide) k hk
  have c6 : ∀ k, k < 240 → M (a + 6) k = mi (b + 6) k := fun k hk => hc 5 (by decide) k hk
  have c7 : ∀ k, k < 120 → M (a + 7) k = mi (b + 7) k := fun k hk => hc 6 (by decide) k hk
  have w0 := hI.1.1
  have w1 := hI.1.2.1
  have h5 := hI.2.2.2.2.2
  refine ⟨hI, ⟨by rw [k0]; exact d0, by rw [k1]; exact d1, by rw [k9]; exact d2, by rw [k10]; exact d3, by rw [k11]; exact d4, by rw [k12]; exact d5⟩, ⟨fun i hi => by rw [c4 i (by omega)]; exact f1 i hi, fun i hi => by rw [c7 i (by omega)]; exact f2 i hi⟩, ⟨fun t htt => by rw [c2 t htt]; exact g1 t htt, fun r hr => ?_⟩, fun t htt => ?_⟩
  · have hk := hI.1.2.2.1 r (by omega) hr
    have z0 := hk.1
    have z2 := hk.2.2.1
    rw [c3 _ (by omega)]
    exact g2 r hr
  · obtain ⟨hrc, hz, hrow, hso, hco⟩ := ht t htt
    have e1 : cRc M a t = cRc mi b t := c1 t htt
    have e2 : ∀ j, j < 20 → cKy M a t j = cKy mi b t j := fun j hj => c5 _ (by omega)
    have e3 : ∀ j c, j < 20 → c < 2 → cVl M a t j c = cVl mi b t j c := fun j c hj hc => c6 _ (by omega)
    refine ⟨by rw [e1]; exact hrc, fun h => by rw [e1]; exact hz h, fun j hj => ?_, fun i j hi hj => ?_, fun k hk hce => ?_⟩
    · rw [e1] at hj
      rw [e2 j (by omega), e3 j 0 (by omega) (by decide), e3 j 1 (by omega) (by decide)]
      exact hrow j hj
    · rw [e1] at hj
      rw [e2 j (by omega), e2 i (by omega)]
      exact hso i j hi hj
    · obtain ⟨j, h1, h2⟩ := hco k hk hce
      exact ⟨j, by rw [e1]; exact h1, by rw [e2 j (by omega)]; exact h2⟩
def cSB (mi : mm_M) (a : Nat) (B : Int → Int) : Prop := cS mi a B ∧ bFk B
def hSt (x : Nat) : Prop := x = 27 ∨ x = 35 ∨ x = 43 ∨ x = 51
def hOk (h : mm_H) : Prop := h.length = 4 ∧ (∀ i, i < 4 → hSt (h.getD i 0)) ∧ ∀ i j, i < 4 → j < 4 → i ≠ j → h.getD i 0 ≠ h.getD j 0
/-- the history's states hold these blocks -/
def cHi (mi : mm_M) (h : mm_H) (Bs : Nat → Int → Int) (n : Int) : Prop := hOk h ∧ (0 ≤ n ∧ n ≤ 4) ∧ mi 25 1 = n ∧ ∀ i : Nat, (i : Int) < n → cSB mi (h.getD i 0) (Bs (i + 1))
def aPush (Bs : Nat → Int → Int) (n : Int) (B : Int → Int) : Nat → Int → Int := fun i => if (i : Int) = kAccN n then B else if n = 4 then Bs (i + 1) else Bs i
section CHI
variable {X : Nat × (Nat → Int)} {mi : mm_M} {h : mm_H} {Q : Option mm_V → mm_S → Prop}
theorem sp34h {x p : Nat} (hx : hSt x) (hp : p = 1 ∨ p = 9) (hq : ∀ M, cCpd mi M x p → cFA x mi M → Q none (mm_ms0 M h)) : mcl X 34 [.inr (some x), .inr (some p)] (mm_ms0 mi h) Q := by
  rcases hp with rfl | rfl <;> rcases hx with rfl | rfl | rfl | rfl
  · exact sp34p27_1 hq
  · exact sp34p35_1 hq
  · exact sp34p43_1 hq
  · exact sp34p51_1 hq
  · exact sp34p27_9 hq
  · exact sp34p35_9 hq
  · exact sp34p43_9 hq
  · exact sp34p51_9 hq
theorem sp34b {x : Nat} (hx : hSt x) (hq : ∀ M, cCpd mi M 1 x → cFA 1 mi M → Q none (mm_ms0 M h)) : mcl X 34 [.inr (some 1), .inr (some x)] (mm_ms0 mi h) Q := by
  rcases hx with rfl | rfl | rfl | rfl
  · exact sp34p1_27 hq
  · exact sp34p1_35 hq
  · exact sp34p1_43 hq
  · exact sp34p1_51 hq
theorem mm_isc_st {x : Nat} (hx : hSt x) : mm_isc (mm_ms0 mi h) 4 x = true := by
  rcases hx with rfl | rfl | rfl | rfl <;> rfl
-- remember
theorem c18 {p : Nat} {S : mm_S} : mcl X 18 [.inr (some 25), .inr (some p)] S Q = mwp X 18 0 [some (.inr (some 25)), some (.inr (some p))] [] S Q := mcl_in he18 rfl
theorem b18_0 {p : Nat} : mwp X 18 0 [some (.inr (some 25)), some (.inr (some p))] [] (mm_ms0 mi h) Q = (if mi 25 1 < 4 then mwp X 18 12 [some (.inr (some 25)), some (.inr (some p))] [] (mm_ms0 mi h) Q else mwp X 18 8 [some (.inr (some 25)), some (.inr (some p))] [] (mm_ms0 mi h) Q) := (mwp_steps (pc2 := if mi 25 1 < 4 then 12 else 8) 4 he18 rfl).trans mwp_ite
theorem b18_8 {p : Nat} : mwp X 18 8 [some (.inr (some 25)), some (.inr (some p))] [] (mm_ms0 mi h) Q = mcl X 19 [.inr (some 25)] (mm_ms0 mi h) (fun v S1 => mwp X 18 12 [some (.inr (some 25)), some (.inr (some p))] (mm_psh v []) S1 Q) := (mwp_steps (pc2 := 9) (L2 := [some (.inr (some 25)), some (.inr (some p))]) (st2 := [.inr (some 25)]) (S2 := mm_ms0 mi h) 1 he18 rfl).trans (mwp_call he18 he19 rfl rfl)
theorem b18_12 {p : Nat} (hl : h.length = 4) : mwp X 18 12 [some (.inr (some 25)), some (.inr (some p))] [] (mm_ms0 mi h) Q = ((0 ≤ mi 25 1 ∧ mi 25 1 < 4) ∧ mwp X 18 21 [some (.inr (some 25)), some (.inr (some p))] [.inr (some (h.getD (mi 25 1).toNat 0))] (mm_ms0 mi h) Q) := (mwp_steps (pc2 := 20) (L2 := [some (.inr (some 25)), some (.inr (some p))]) (st2 := [.inl (mi 25 1), .inr (some 26)]) (S2 := mm_ms0 mi h) 4 he18 rfl).trans (mwp_aald (len := 1) hl he18 rfl)
theorem b18_21 {p x : Nat} (hx : hSt x) : mwp X 18 21 [some (.inr (some 25)), some (.inr (some p))] [.inr (some x)] (mm_ms0 mi h) Q = mcl X 34 [.inr (some x), .inr (some p)] (mm_ms0 mi h) (fun v S1 => mwp X 18 25 [some (.inr (some 25)), some (.inr (some p))] (mm_psh v []) S1 Q) := by
  rcases hx with rfl | rfl | rfl | rfl
  · exact (mwp_steps (pc2 := 22) (L2 := [some (.inr (some 25)), some (.inr (some p))]) (st2 := [.inr (some p), .inr (some 27)]) (S2 := mm_ms0 mi h) 1 he18 rfl).trans (mwp_call he18 he34 rfl rfl)
  · exact (mwp_steps (pc2 := 22) (L2 := [some (.inr (some 25)), some (.inr (some p))]) (st2 := [.inr (some p), .inr (some 35)]) (S2 := mm_ms0 mi h) 1 he18 rfl).trans (mwp_call he18 he34 rfl rfl)
  · exact (mwp_steps (pc2 := 22) (L2 := [some (.inr (some 25)), some (.inr (some p))]) (st2 := [.inr (some p), .inr (some 43)]) (S2 := mm_ms0 mi h) 1 he18 rfl).trans (mwp_call he18 he34 rfl rfl)
  · exact (mwp_steps (pc2 := 22) (L2 := [some (.inr (some 25)), some (.inr (some p))]) (st2 := [.inr (some p), .inr (some 51)]) (S2 := mm_ms0 mi h) 1 he18 rfl).trans (mwp_call he18 he34 rfl rfl)
theorem b18_25 {p : Nat} : mwp X 18 25 [some (.inr (some 25)), some (.inr (some p))] [] (mm_ms0 mi h) Q = Q none (mm_ms0 (mm_up mi 25 1 (mm_w (mi 25 1 + 1))) h) := (mwp_steps (pc2 := 35) (L2 := [some (.inr (some 25)), some (.inr (some p))]) (st2 := []) (S2 := mm_ms0 (mm_up mi 25 1 (mm_w (mi 25 1 + 1))) h) 6 he18 rfl).trans (mwp_retv he18 rfl rfl)
-- dropOldest
theorem c19 {S : mm_S} : mcl X 19 [.inr (some 25)] S Q = mwp X 19 0 [some (.inr (some 25)), none, none] [] S Q := mcl_in he19 rfl
theorem b19_0 (hl : h.length = 4) : mwp X 19 0 [some (.inr (some 25)), none, none] [] (mm_ms0 mi h) Q = (((0 : Int) ≤ 0 ∧ (0 : Int) < 4) ∧ mwp X 19 6 [some (.inr (some 25)), none, none] [.inr (some (h.getD (Int.toNat 0) 0))] (mm_ms0 mi h) Q) := (mwp_steps (pc2 := 5) (L2 := [some (.inr (some 25)), none, none]) (st2 := [.inl 0, .inr (some 26)]) (S2 := mm_ms0 mi h) 3 he19 rfl).trans (mwp_aald (len := 1) hl he19 rfl)
theorem b19_6 {x : Nat} : mwp X 19 6 [some (.inr (some 25)), none, none] [.inr (some x)] (mm_ms0 mi h) Q = mwp X 19 9 [some (.inr (some 25)), some (.inr (some x)), some (.inl 1)] [] (mm_ms0 mi h) Q := mwp_steps 3 he19 rfl
theorem b19_9 {x : Nat} {i : Int} : mwp X 19 9 [some (.inr (some 25)), some (.inr (some x)), some (.inl i)] [] (mm_ms0 mi h) Q = (if i < 4 then mwp X 19 14 [some (.inr (some 25)), some (.inr (some x)), some (.inl i)] [] (mm_ms0 mi h) Q else mwp X 19 34 [some (.inr (some 25)), some (.inr (some x)), some (.inl i)] [] (mm_ms0 mi h) Q) := (mwp_steps (pc2 := if i < 4 then 14 else 34) 3 he19 rfl).trans mwp_ite
theorem b19_14 {x : Nat} {i : Int} (hl : h.length = 4) : mwp X 19 14 [some (.inr (some 25)), some (.inr (some x)), some (.inl i)] [] (mm_ms0 mi h) Q = ((0 ≤ i ∧ i < 4) ∧ mwp X 19 27 [some (.inr (some 25)), some (.inr (some x)), some (.inl i)] [.inr (some (h.getD i.toNat 0)), .inl (mm_w (i - 1)), .inr (some 26)] (mm_ms0 mi h) Q) := (mwp_steps (pc2 := 26) (L2 := [some (.inr (some 25)), some (.inr (some x)), some (.inl i)]) (st2 := [.inl i, .inr (some 26), .inl (mm_w (i - 1)), .inr (some 26)]) (S2 := mm_ms0 mi h) 8 he19 rfl).trans (mwp_aald (len := 1) hl he19 rfl)
theorem b19_27 {x y : Nat} {i k : Int} (hl : h.length = 4) : mwp X 19 27 [some (.inr (some 25)), some (.inr (some x)), some (.inl i)] [.inr (some y), .inl k, .inr (some 26)] (mm_ms0 mi h) Q = (((0 ≤ k ∧ k < 4) ∧ mm_isc (mm_ms0 mi h) 4 y = true) ∧ mwp X 19 28 [some (.inr (some 25)), some (.inr (some x)), some (.inl i)] [] (mm_ms0 mi (h.set k.toNat y)) Q) := mwp_aast (len := 1) hl he19 rfl
theorem b19_28 {x : Nat} {i : Int} : mwp X 19 28 [some (.inr (some 25)), some (.inr (some x)), some (.inl i)] [] (mm_ms0 mi h) Q = mwp X 19 9 [some (.inr (some 25)), some (.inr (some x)), some (.inl (mm_w (i + 1)))] [] (mm_ms0 mi h) Q := mwp_steps 2 he19 rfl
theorem b19_34 {x : Nat} {i : Int} (hl : h.length = 4) : mwp X 19 34 [some (.inr (some 25)), some (.inr (some x)), some (.inl i)] [] (mm_ms0 mi h) Q = ((((0 : Int) ≤ 3 ∧ (3 : Int) < 4) ∧ mm_isc (mm_ms0 mi h) 4 x = true) ∧ mwp X 19 41 [some (.inr (some 25)), some (.inr (some x)), some (.inl i)] [] (mm_ms0 mi (h.set (Int.toNat 3) x)) Q) := (mwp_steps (pc2 := 40) (L2 := [some (.inr (some 25)), some (.inr (some x)), some (.inl i)]) (st2 := [.inr (some x), .inl 3, .inr (some 26)]) (S2 := mm_ms0 mi h) 4 he19 rfl).trans (mwp_aast (len := 1) hl he19 rfl)
theorem b19_41 {x : Nat} {i : Int} : mwp X 19 41 [some (.inr (some 25)), some (.inr (some x)), some (.inl i)] [] (mm_ms0 mi h) Q = Q none (mm_ms0 (mm_up mi 25 1 (mm_w (mi 25 1 - 1))) h) := (mwp_steps (pc2 := 51) (L2 := [some (.inr (some 25)), some (.inr (some x)), some (.inl i)]) (st2 := []) (S2 := mm_ms0 (mm_up mi 25 1 (mm_w (mi 25 1 - 1))) h) 6 he19 rfl).trans (mwp_retv he19 rfl rfl)
-- bringBack
theorem c20 {S : mm_S} : mcl X 20 [.inr (some 25), .inr (some 1)] S Q = mwp X 20 0 [some (.inr (some 25)), some (.inr (some 1))] [] S Q := mcl_in he20 rfl
theorem b20_0 : mwp X 20 0 [some (.inr (some 25)), some (.inr (some 1))] [] (mm_ms0 mi h) Q = (if mi 25 1 = 0 then mwp X 20 7 [some (.inr (some 25)), some (.inr (some 1))] [] (mm_ms0 mi h) Q else mwp X 20 10 [some (.inr (some 25)), some (.inr (some 1))] [] (mm_ms0 mi h) Q) := (mwp_steps (pc2 := if mi 25 1 = 0 then 7 else 10) 3 he20 rfl).trans mwp_ite
theorem b20_7 : mwp X 20 7 [some (.inr (some 25)), some (.inr (some 1))] [] (mm_ms0 mi h) Q = Q (some (.inl (-9))) (mm_ms0 mi h) := (mwp_steps (pc2 := 9) (L2 := [some (.inr (some 25)), some (.inr (some 1))]) (st2 := [.inl (-9)]) (S2 := mm_ms0 mi h) 1 he20 rfl).trans (mwp_ret he20 rfl rfl rfl)
theorem b20_10 (hl : h.length = 4) : mwp X 20 10 [some (.inr (some 25)), some (.inr (some 1))] [] (mm_ms0 mi h) Q = ((0 ≤ mm_w (mi 25 1 - 1) ∧ mm_w (mi 25 1 - 1) < 4) ∧ mwp X 20 30 [some (.inr (some 25)), some (.inr (some 1))] [.inr (some (h.getD (mm_w (mi 25 1 - 1)).toNat 0)), .inr (some 1)] (mm_ms0 (mm_up mi 25 1 (mm_w (mi 25 1 - 1))) h) Q) := (mwp_steps (pc2 := 29) (L2 := [some (.inr (some 25)), some (.inr (some 1))]) (st2 := [.inl (mm_w (mi 25 1 - 1)), .inr (some 26), .inr (some 1)]) (S2 := mm_ms0 (mm_up mi 25 1 (mm_w (mi 25 1 - 1))) h) 11 he20 rfl).trans (mwp_aald (len := 1) hl he20 rfl)
theorem b20_30 {x : Nat} : mwp X 20 30 [some (.inr (some 25)), some (.inr (some 1))] [.inr (some x), .inr (some 1)] (mm_ms0 mi h) Q = mcl X 34 [.inr (some 1), .inr (some x)] (mm_ms0 mi h) (fun v S1 => mwp X 20 33 [some (.inr (some 25)), some (.inr (some 1))] (mm_psh v []) S1 Q) := mwp_call he20 he34 rfl rfl
theorem b20_33 : mwp X 20 33 [some (.inr (some 25)), some (.inr (some 1))] [] (mm_ms0 mi h) Q = Q (some (.inl (mi 25 1))) (mm_ms0 mi h) := (mwp_steps (pc2 := 37) (L2 := [some (.inr (some 25)), some (.inr (some 1))]) (st2 := [.inl (mi 25 1)]) (S2 := mm_ms0 mi h) 2 he20 rfl).trans (mwp_ret he20 rfl rfl rfl)
end CHI
