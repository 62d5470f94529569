-- THE LAW's method isRing; what a deletion does, pure
section LQ
variable {X : Nat × (Nat → Int)} {mi : mm_M} {h : mm_H} {Q : Option mm_V → mm_S → Prop} {B : Int → Int}
theorem kAnc_edge {x0 : Int} : ∀ n z, kAnc B x0 n z → ∃ e, e < gR B ∧ kEdge B e ∧ gCh B e = x0 := by
  intro n
  induction n with
  | zero => intro z hz; exact hz.elim
  | succ n ih =>
    rintro z ⟨e, h1, h2, h3 | h3, h4⟩
    · exact ⟨e, h1, h2, h3⟩
    · exact ih _ h3
/-- who has a parent has a value -/
theorem kAnc_val (hI : bInv B) {t k z : Int} (hr : kIsRow B t k) (ha : kAncU B (100 * t + k) z) : 0 ≤ kGiveV B t k 0 ∨ 0 ≤ kGiveV B t k 1 := by
  obtain ⟨n, hn⟩ := ha
  obtain ⟨e, he, hed, hch⟩ := kAnc_edge n z hn
  obtain ⟨g1, g2, g3, g4, g5, g6, g7, g8⟩ := g_at hI.1 he
  have h1 := hr.1
  have h2 := hr.2.1
  have d1 : gCh B e = 100 * kOf B ((e / 100 : Nat) : Int) 0 + ((e % 100 : Nat) : Int) := rfl
  have t1 : kOf B ((e / 100 : Nat) : Int) 0 = t := by omega
  have hcol := hI.2.2.2.1.2 (e / 100) g2
  rw [t1] at hcol
  have hc2 := hI.2.1 t
  have g32 := g3.2.2.1
  have hv := (g6 hed.1).1
  have hne := hed.2
  have ev : gVal B e = kV B (100 * t + k) (kOf B ((e / 100 : Nat) : Int) 2) := by
    show kV B (gCh B e) _ = _
    rw [hch]
  have gv : ∀ c : Int, c = kOf B ((e / 100 : Nat) : Int) 2 → 0 ≤ kGiveV B t k c := by
    intro c hc
    unfold kGiveV
    rw [if_pos ⟨hr, by omega, by omega⟩, hc, ← ev]
    omega
  by_cases q : kOf B ((e / 100 : Nat) : Int) 2 = 0
  · exact Or.inl (gv 0 q.symm)
  · exact Or.inr (gv 1 (by omega))
theorem kRing_01 {t k : Int} (hr : kIsRow B t k) : (kRing B t k = 1 ∧ kAncU B (100 * t + k) (100 * t + k)) ∨ (kRing B t k = 0 ∧ ¬ kAncU B (100 * t + k) (100 * t + k)) := by
  unfold kRing
  rw [if_neg (fun z => z hr)]
  by_cases q : kAncU B (100 * t + k) (100 * t + k)
  · rw [if_pos q]; exact Or.inl ⟨rfl, q⟩
  · rw [if_neg q]; exact Or.inr ⟨rfl, q⟩
set_option maxHeartbeats 4000000 in
theorem sp160 (hS : cS mi 1 B) (hFk : bFk B) {t k : Int} (hr : kIsRow B t k) (hq : ∀ m, cFC mi m → Q (some (.inl 1)) (mm_ms0 m h)) : mcl X 160 [.inr (some 0), .inl t, .inl k] (mm_ms0 mi h) Q := by
  have w1 := hS.1.1.2.1
  rw [c160, b160_0]
  refine sp83 hS hFk (fun m hm => ?_)
  have hS2 := cFC.S hm hS
  have h01 := kRing_01 hr
  have hq2 := hq m hm
  rw [mm_psh_i]
  generalize kRing B t k = ring at h01 ⊢
  have main : ∀ hv : Int, (hv = 1 ∨ (hv = 0 ∧ ¬ kAncU B (100 * t + k) (100 * t + k))) → mwp X 160 32 [some (.inr (some 0)), some (.inl t), some (.inl k), some (.inl ring), none, none, none] [.inl hv] (mm_ms0 m h) Q := by
    intro hv hh
    rw [b160_32]
    have good : mwp X 160 126 [some (.inr (some 0)), some (.inl t), some (.inl k), some (.inl ring), some (.inl hv), some (.inl 0), some (.inl (B 1).toNat)] [] (mm_ms0 m h) Q := by
      rw [b160_126, b160_131]
      exact ⟨Or.inr rfl, hq2⟩
    refine mm_for (fun i => ∀ own : Int, (own = 0 ∨ (own = 1 ∧ kAncU B (100 * t + k) (100 * t + k))) → mwp X 160 40 [some (.inr (some 0)), some (.inl t), some (.inl k), some (.inl ring), some (.inl hv), some (.inl own), some (.inl (i : Int))] [] (mm_ms0 m h) Q) (B 1).toNat ?_ ?_ 0 (Nat.zero_le _) 0 (Or.inl rfl)
    · intro own ho
      have fin : ∀ z : Int, z = 1 → mwp X 160 131 [some (.inr (some 0)), some (.inl t), some (.inl k), some (.inl ring), some (.inl hv), some (.inl own), some (.inl ((B 1).toNat : Int))] [.inl z] (mm_ms0 m h) Q := by
        intro z hz
        subst hz
        rw [b160_131]
        exact ⟨Or.inr rfl, hq2⟩
      have own2 : mwp X 160 116 [some (.inr (some 0)), some (.inl t), some (.inl k), some (.inl ring), some (.inl hv), some (.inl own), some (.inl ((B 1).toNat : Int))] [] (mm_ms0 m h) Q := by
        rw [b160_116]
        rcases ho with ho | ⟨ho, ha⟩
        · rw [if_pos ho, b160_126]
          exact fin 1 rfl
        · rw [if_neg (by omega), b160_121, if_pos (by rcases h01 with ⟨a, -⟩ | ⟨-, a⟩; exact a; exact absurd ha a), b160_126]
          exact fin 1 rfl
      rw [b160_40]
      refine sp78 hS2 ?_
      rw [kTotC_1, mm_psh_i, b160_47, if_neg (by omega), b160_107]
      by_cases q : ring = 0
      · rw [if_pos q]
        exact own2
      · rw [if_neg q, b160_111, if_neg (fun z => by
          rcases hh with hh | ⟨-, hh⟩
          · omega
          · rcases h01 with ⟨-, a⟩ | ⟨a, -⟩
            · exact hh a
            · exact q a)]
        exact own2
    · intro i hi ih own ho
      have hk := hS.1.1.2.2.1 i (by omega) (by omega)
      have hcol := hS.1.2.2.2.1.2 i (by omega)
      have next : ∀ z : Int, (z = 0 ∨ (z = 1 ∧ kAncU B (100 * t + k) (100 * t + k))) → mwp X 160 99 [some (.inr (some 0)), some (.inl t), some (.inl k), some (.inl ring), some (.inl hv), some (.inl own), some (.inl (i : Int))] [.inl z] (mm_ms0 m h) Q := by
        intro z hz
        rw [b160_99, mm_wi (by omega) (by omega)]
        exact ih z hz
      have no : mwp X 160 98 [some (.inr (some 0)), some (.inl t), some (.inl k), some (.inl ring), some (.inl hv), some (.inl own), some (.inl (i : Int))] [] (mm_ms0 m h) Q := by
        rw [b160_98]
        exact next 0 (Or.inl rfl)
      have yes : kAncU B (100 * t + k) (100 * t + k) → mwp X 160 94 [some (.inr (some 0)), some (.inl t), some (.inl k), some (.inl ring), some (.inl hv), some (.inl own), some (.inl (i : Int))] [] (mm_ms0 m h) Q := by
        intro ha
        rw [b160_94]
        exact next 1 (Or.inr ⟨rfl, ha⟩)
      rw [b160_40]
      refine sp78 hS2 ?_
      rw [kTotC_1, mm_psh_i, b160_47, if_pos (by omega), b160_50]
      by_cases qo : own = 0
      · rw [if_pos qo, b160_55]
        refine sp76 hS2 ?_
        rw [kGiveF_in (by omega) (by decide), mm_psh_i, b160_62]
        by_cases q0 : kOf B i 0 = t
        · rw [if_pos q0, b160_66]
          refine sp76 hS2 ?_
          rw [kGiveF_in (by omega) (by decide), mm_psh_i, b160_73]
          by_cases q1 : kOf B i 1 = t
          · rw [if_pos q1, b160_77]
            refine sp76 hS2 ?_
            rw [kGiveF_in (by omega) (by decide), mm_psh_i, b160_87]
            refine sp74 hS2 ?_
            rw [mm_psh_i, b160_90]
            by_cases q2 : kGiveV B t k (kOf B i 2) = k
            · rw [if_pos q2]
              have h2 := hr.2.1
              have hk2 := hk.2.2.1
              have hc2 := hS.1.2.1 t
              rw [q0] at hcol
              refine yes ⟨1, 100 * i + k.toNat, by unfold gR; omega, ⟨?_, ?_⟩, Or.inl ?_, ?_⟩
              · exact (gRow_at (by omega)).mpr (by rw [q0, show ((k.toNat : Nat) : Int) = k by omega]; exact hr.2.2)
              · unfold kGiveV at q2
                rw [if_pos ⟨hr, by omega, by omega⟩] at q2
                show gVal B (100 * i + k.toNat) ≠ -1
                rw [gVal_at (by omega)]
                show kV B (100 * kOf B i 0 + ((k.toNat : Nat) : Int)) (kOf B i 2) ≠ -1
                rw [q0, show ((k.toNat : Nat) : Int) = k by omega, q2]
                omega
              · rw [gCh_at (by omega), q0]
                omega
              · unfold kGiveV at q2
                rw [if_pos ⟨hr, by omega, by omega⟩] at q2
                show 100 * kOf B (((100 * i + k.toNat) / 100 : Nat) : Int) 1 + gVal B (100 * i + k.toNat) = _
                rw [gVal_at (by omega), show (100 * i + k.toNat) / 100 = i by omega, q1]
                show 100 * t + kV B (100 * kOf B i 0 + ((k.toNat : Nat) : Int)) (kOf B i 2) = _
                rw [q0, show ((k.toNat : Nat) : Int) = k by omega, q2]
            · rw [if_neg q2]
              exact no
          · rw [if_neg q1]
            exact no
        · rw [if_neg q0]
          exact no
      · rw [if_neg qo]
        exact yes (by rcases ho with ho | ⟨-, ho⟩; exact absurd ho qo; exact ho)
  rw [b160_6]
  refine sp74 hS2 ?_
  rw [mm_psh_i, b160_14]
  have y : mwp X 160 27 [some (.inr (some 0)), some (.inl t), some (.inl k), some (.inl ring), none, none, none] [] (mm_ms0 m h) Q := by
    rw [b160_27]
    exact main 1 (Or.inl rfl)
  by_cases q0 : kGiveV B t k 0 < 0
  · rw [if_pos q0, b160_17]
    refine sp74 hS2 ?_
    rw [mm_psh_i, b160_24]
    by_cases q1 : kGiveV B t k 1 < 0
    · rw [if_pos q1, b160_31]
      exact main 0 (Or.inr ⟨rfl, fun ha => by have := kAnc_val hS.1 hr ha; omega⟩)
    · rw [if_neg q1]
      exact y
  · rw [if_neg q0]
    exact y
/-- what the first of the refusing is -/
theorem fnx_is {p : Nat → Bool} {n e : Nat} (hf : fnx p n 0 = some e) : e < n ∧ p e = true := by
  unfold fnx at hf
  refine ⟨?_, List.find?_some hf⟩
  have := List.mem_of_find?_eq_some hf
  rw [List.mem_range'_1] at this
  omega
theorem kWhich_some {x : Int} {e : Nat} (hI : bInv B) (hx : 0 ≤ x ∧ x < 600) (hc : 0 ≤ kCe B x) (hw : kWhich B x = some e) : e < gR B ∧ 0 < gWhy B (gMk B x) e ∧ 0 ≤ gCh B e ∧ kOf B ((e / 100 : Nat) : Int) 3 ≠ 2 ∧ ((e / 100 : Nat) : Int) < B 1 := by
  obtain ⟨h1, h2⟩ := fnx_is hw
  have h3 := of_decide_eq_true h2
  obtain ⟨g1, g2, g3, g4, g5, g6, g7, g8⟩ := g_at hI.1 h1
  refine ⟨h1, h3.2, g1.1, fun z => ?_, g2⟩
  have hm := gMk_casc hI.1 hI.ok.2.2 hx hc h1 h3.1 z
  have hy := h3.2
  unfold gWhy kWhy at hy
  rw [z, if_neg (by decide), if_pos hm] at hy
  omega
theorem gIt_succ {n : Nat} {C : gC} : gIt B (n + 1) C = gIt B n (gStep B C) := rfl
theorem gStep_mark {C : gC} {z : Int} (hz : C.2.1 z = true) : (gStep B C).2.1 z = true := by
  obtain ⟨stk, mk, out⟩ := C
  rcases snoc_cases stk with rfl | ⟨r, q, rfl⟩
  · exact hz
  · obtain ⟨x, e⟩ := q
    cases hn : gNx B mk x e with
    | some e2 =>
      rw [gStep_some hn]
      show gUp mk (gCh B e2) z = true
      unfold gUp
      split
      · rfl
      · exact hz
    | none =>
      rw [gStep_none hn]
      exact hz
theorem gIt_mark {z : Int} : ∀ (n : Nat) (C : gC), C.2.1 z = true → (gIt B n C).2.1 z = true := by
  intro n
  induction n with
  | zero => exact fun C hz => hz
  | succ n ih => exact fun C hz => ih _ (gStep_mark hz)
theorem kOut_self {x : Int} (hI : bInv B) (hx : 0 ≤ x ∧ x < 600) (hc : 0 ≤ kCe B x) : x ∈ kOut B x := by
  have h0 : (gIni x).2.1 x = true := by
    show gUp (fun _ => false) x x = true
    unfold gUp
    rw [if_pos rfl]
  have h1 : ∀ n, (gIt B n (gIni x)).2.1 x = true := fun n => gIt_mark n _ h0
  have h2 : (gRes B x).2.1 x = true := by
    unfold gRes
    generalize 240 = n
    exact h1 n
  refine (gMk_iff hI.1 hI.ok.2.2 hx hc x).mp ?_
  unfold gMk
  rw [h2, if_pos rfl]
  decide
/-- without a cascade nothing else is gathered -/
theorem kOut_alone {x : Int} (hr : ∀ r : Nat, (r : Int) < B 1 → kOf B r 3 ≠ 2) : kOut B x = [x] := by
  have hn : gNx B (gUp (fun _ => false) x) x 0 = none := by
    cases hg : gNx B (gUp (fun _ => false) x) x 0 with
    | none => rfl
    | some e2 =>
      obtain ⟨-, g2, g3, -⟩ := gNx_some hg
      have := (gCand_iff.mp g3).1.1
      exact absurd this (hr (e2 / 100) (by unfold gR at g2; omega))
  have h1 : gRes B x = gIt B 239 (gStep B (gIni x)) := gIt_succ
  have h2 : gStep B (gIni x) = ([], gUp (fun _ => false) x, [x]) := gStep_none (r := []) hn
  unfold kOut
  rw [h1, h2, gIt_nil]
end LQ
