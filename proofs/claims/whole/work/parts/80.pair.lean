-- CLASS AND REFERENCE side by side
/-- both hold the same -/
def bothG (mi : mm_M) (h : mm_H) : Prop := cRel mi h (kBlk mi) (mi 69 1) ∧ mi 0 3 = mi 69 2 ∧ (0 ≤ mi 59 1 ∧ mi 59 1 ≤ 60) ∧ mi 69 4 = mi 59 1 ∧ mi 71 = mi 60
/-- a call of the class, then the same of the reference: one answer, and both hold the same -/
def pairC (X : Nat × (Nat → Int)) (cx cm : Nat) (as : List mm_V) (mi : mm_M) (h : mm_H) : Prop := ∀ R : Option mm_V → mm_S → Prop, (∀ a m1 h1, (∀ P : Option mm_V → mm_S → Prop, (∀ m2 h2, bothG m2 h2 → P (some (.inl a)) (mm_ms0 m2 h2)) → mcl X cm (.inr (some 69) :: as) (mm_ms0 m1 h1) P) → R (some (.inl a)) (mm_ms0 m1 h1)) → mcl X cx (.inr (some 0) :: as) (mm_ms0 mi h) R
section PR
variable {X : Nat × (Nat → Int)} {mi : mm_M} {h : mm_H}
theorem cRel.eq {Bs Bs2 : Nat → Int → Int} {n : Int} (hR : cRel mi h Bs n) (e0 : Bs2 0 = Bs 0) (e5 : Bs2 5 = Bs 5) (e : ∀ i : Nat, 1 ≤ i → (i : Int) ≤ n → Bs2 i = Bs i) : cRel mi h Bs2 n := by
  obtain ⟨h1, h2, h3, h4⟩ := hR
  exact ⟨h1.eq e, by rw [e0]; exact h2, h3, by rw [e5]; exact h4⟩
theorem cOut.blk {m1 : mm_M} (hO : cOut mi m1) (i : Nat) : kBlk m1 i = kBlk mi i := mB_eq (hO.1 70 (Or.inr (by decide))) _
theorem cOut.k {m1 : mm_M} (hO : cOut mi m1) : m1 69 = mi 69 := hO.1 69 (Or.inr (by decide))
theorem both_keep {m1 m2 : mm_M} {h1 : mm_H} (hG : bothG mi h) (hR : cRel m1 h1 (kBlk mi) (mi 69 1)) (hO : cOut mi m1) (h03 : m1 0 3 = mi 0 3) (hK : kKeep m1 m2) : bothG m2 h1 := by
  obtain ⟨-, g2, g3, g4, g5⟩ := hG
  obtain ⟨⟨f1, f2⟩, k1, kb⟩ := hK
  have lo : ∀ a, a < 69 → m2 a = m1 a := fun a ha => f1 a (by omega) (by omega) (by omega) (by omega) (by omega) (by omega)
  have e71 : m2 71 = mi 71 := by rw [f1 71 (by decide) (by decide) (by decide) (by decide) (by decide) (by decide), hO.1 71 (by omega)]
  have e1 : m2 69 1 = mi 69 1 := by rw [k1, hO.k]
  have blk : ∀ i, i < 6 → kBlk m2 i = kBlk mi i := fun i hi => (kb i hi).trans (hO.blk i)
  refine ⟨?_, ?_, by rw [lo 59 (by decide), hO.2]; exact g3, ?_, ?_⟩
  · rw [e1]
    have := (hR.co (m2 := m2) (fun x hx => lo x (by omega))).eq (Bs2 := kBlk m2) (blk 0 (by decide)) (blk 5 (by decide)) (fun i a b => blk i (by have := hR.1.2.1; omega))
    exact this
  · rw [lo 0 (by decide), h03, f2 2 (by decide) (by omega) (by decide) (by decide), hO.k]; exact g2
  · rw [lo 59 (by decide), hO.2, f2 4 (by decide) (by omega) (by decide) (by decide), hO.k]; exact g4
  · rw [e71, lo 60 (by decide), hO.1 60 (by omega)]; exact g5
theorem both_take {m1 m2 : mm_M} {h1 : mm_H} {B2 : Int → Int} (hG : bothG mi h) (hR : cRel m1 h1 (aTk (kBlk mi) (mi 69 1) B2) (kAccN (mi 69 1))) (hO : cOut mi m1) (h03 : m1 0 3 = mi 0 3) (hT : kTake m1 m2 B2) : bothG m2 h1 := by
  obtain ⟨g1, g2, g3, g4, g5⟩ := hG
  obtain ⟨⟨f1, f2⟩, k1, t0, t5, tn, t4, tl⟩ := hT
  have hn := g1.1.2.1
  have lo : ∀ a, a < 69 → m2 a = m1 a := fun a ha => f1 a (by omega) (by omega) (by omega) (by omega) (by omega) (by omega)
  have e71 : m2 71 = mi 71 := by rw [f1 71 (by decide) (by decide) (by decide) (by decide) (by decide) (by decide), hO.1 71 (by omega)]
  rw [hO.k] at k1 tn t4 tl
  refine ⟨?_, ?_, by rw [lo 59 (by decide), hO.2]; exact g3, ?_, ?_⟩
  · rw [k1]
    have hk : 1 ≤ kAccN (mi 69 1) ∧ kAccN (mi 69 1) ≤ 4 := by unfold kAccN; split <;> omega
    refine (hR.co (m2 := m2) (fun x hx => lo x (by omega))).eq (Bs2 := kBlk m2) ?_ ?_ (fun i a b => ?_)
    · rw [t0]; rfl
    · rw [t5, hO.blk]; rfl
    · unfold aTk aPush
      rw [if_neg (by omega), if_neg (by omega)]
      by_cases q : (i : Int) = kAccN (mi 69 1)
      · rw [if_pos q, show i = (kAccN (mi 69 1)).toNat by omega, tn, hO.blk]
      · rw [if_neg q]
        by_cases q2 : mi 69 1 = 4
        · have k4 : kAccN (mi 69 1) = 4 := by unfold kAccN; rw [if_neg (by omega)]; exact q2
          rw [if_pos q2, t4 q2 i a (by omega), hO.blk]
        · have k4 : kAccN (mi 69 1) = mi 69 1 + 1 := by unfold kAccN; rw [if_pos (by omega)]
          rw [if_neg q2, tl (by omega) i a (by omega), hO.blk]
  · rw [lo 0 (by decide), h03, f2 2 (by decide) (by omega) (by decide) (by decide), hO.k]; exact g2
  · rw [lo 59 (by decide), hO.2, f2 4 (by decide) (by omega) (by decide) (by decide), hO.k]; exact g4
  · rw [e71, lo 60 (by decide), hO.1 60 (by omega)]; exact g5
theorem pair_act {cx cm : Nat} {as : List mm_V} (hG : bothG mi h) (r : Int × (Int → Int)) (hc : ∀ Q, cAct mi h Q (kBlk mi) (mi 69 1) r → mcl X cx (.inr (some 0) :: as) (mm_ms0 mi h) Q)
    (hm : ∀ m1 h1 Q, kBlk m1 0 = kBlk mi 0 → m1 69 1 = mi 69 1 → m1 71 = mi 71 → m1 69 4 = mi 69 4 → kAct m1 h1 Q r → mcl X cm (.inr (some 69) :: as) (mm_ms0 m1 h1) Q) : pairC X cx cm as mi h := by
  intro R hR
  refine hc R ⟨fun hlt m1 g1 g2 g3 => ?_, fun hge m1 h1 g1 g2 g3 => ?_⟩
  · refine hR _ m1 h (fun P hP => hm m1 h P (g2.blk 0) (by rw [g2.k]) (g2.1 71 (by omega)) (by rw [g2.k]) ⟨fun _ m2 hK => hP m2 h (both_keep hG g1 g2 g3 hK), fun z => by omega⟩)
  · refine hR _ m1 h1 (fun P hP => hm m1 h1 P (g2.blk 0) (by rw [g2.k]) (g2.1 71 (by omega)) (by rw [g2.k]) ⟨fun z => by omega, fun _ m2 hT => hP m2 h1 (both_take hG g1 g2 g3 hT)⟩)
theorem pair_ask {cx cm : Nat} {as : List mm_V} (hG : bothG mi h) (a : Int) (hc : ∀ Q : Option mm_V → mm_S → Prop, (∀ m1, (∀ x, x ≤ 60 ∨ 69 ≤ x → m1 x = mi x) → Q (some (.inl a)) (mm_ms0 m1 h)) → mcl X cx (.inr (some 0) :: as) (mm_ms0 mi h) Q)
    (hm : ∀ m1 Q, kBlk m1 0 = kBlk mi 0 → m1 69 = mi 69 → (∀ m2, kKeep m1 m2 → Q (some (.inl a)) (mm_ms0 m2 h)) → mcl X cm (.inr (some 69) :: as) (mm_ms0 m1 h) Q) : pairC X cx cm as mi h := by
  intro R hR
  refine hc R (fun m1 hF => ?_)
  have hO : cOut mi m1 := ⟨fun a ha => hF a (by omega), by rw [hF 59 (by omega)]⟩
  exact hR a m1 h (fun P hP => hm m1 P (hO.blk 0) hO.k (fun m2 hK => hP m2 h (both_keep hG (hG.1.co (fun x hx => hF x (by omega))) hO (by rw [hF 0 (by omega)]) hK)))
theorem both_ok (hG : bothG mi h) : bAll (kBlk mi 0) := ⟨hG.1.2.1.1.1, hG.1.2.1.2⟩
theorem pr0 (hG : bothG mi h) : pairC X 60 116 [] mi h :=
  pair_act hG (kAddT (kBlk mi 0)) (fun Q hq => sp60 hG.1 hq) (fun m1 h1 Q e0 e1 _ _ hq => sp116 (by rw [e0]; exact (both_ok hG).1.ok) (by rw [e1]; exact hG.1.1.2.1) (by rw [e0]; exact hq))
theorem pr1 (hG : bothG mi h) {c p rule q d : Int} : pairC X 61 117 [.inl c, .inl p, .inl rule, .inl q, .inl d] mi h :=
  pair_act hG (kAddR (kBlk mi 0) c p rule q d) (fun Q hq => sp61 hG.1 hq) (fun m1 h1 Q e0 e1 _ _ hq => sp117 (by rw [e0]; exact (both_ok hG).1.ok) (by rw [e1]; exact hG.1.1.2.1) (by rw [e0]; exact hq))
theorem pr2 (hG : bothG mi h) {r v : Int} : pairC X 62 118 [.inl r, .inl v] mi h :=
  pair_act hG (kSetR (kBlk mi 0) r v) (fun Q hq => sp62 hG.1 hq) (fun m1 h1 Q e0 e1 _ _ hq => sp118 (by rw [e0]; exact (both_ok hG).1.ok) (by rw [e1]; exact hG.1.1.2.1) (by rw [e0]; exact hq))
theorem pr3 (hG : bothG mi h) {t k v0 v1 : Int} : pairC X 63 119 [.inl t, .inl k, .inl v0, .inl v1] mi h :=
  pair_act hG (kIns (kBlk mi 0) t k v0 v1) (fun Q hq => sp63 hG.1 hq) (fun m1 h1 Q e0 e1 _ _ hq => sp119 (by rw [e0]; exact (both_ok hG).1.ok) (by rw [e1]; exact hG.1.1.2.1) (by rw [e0]; exact hq))
theorem pr4 (hG : bothG mi h) {t k c v : Int} : pairC X 64 120 [.inl t, .inl k, .inl c, .inl v] mi h :=
  pair_act hG (kUpd (kBlk mi 0) t k c v) (fun Q hq => sp64 hG.1 hq) (fun m1 h1 Q e0 e1 _ _ hq => sp120 (by rw [e0]; exact (both_ok hG).1.ok) (by rw [e1]; exact hG.1.1.2.1) (by rw [e0]; exact hq))
theorem pr5 (hG : bothG mi h) {t k : Int} : pairC X 65 121 [.inl t, .inl k] mi h :=
  pair_act hG (kDele (kBlk mi 0) t k) (fun Q hq => sp65 hG.1 hq) (fun m1 h1 Q e0 e1 _ _ hq => sp121 (by rw [e0]; exact (both_ok hG).1.ok) (by rw [e1]; exact hG.1.1.2.1) (by rw [e0]; exact hq))
theorem pr6 (hG : bothG mi h) {v : Int} (hv : 0 ≤ v ∧ v < 65536) : pairC X 66 122 [.inl v] mi h := by
  intro R hR
  obtain ⟨g1, g2, g3, g4, g5⟩ := hG
  refine sp66 hv g3 ?_
  by_cases q : mi 59 1 = 60
  · rw [if_pos q, if_pos q]
    refine hR _ mi h (fun P hP => sp122 (by rw [g4]; exact g3) ?_)
    rw [g4, if_pos q, if_pos q]
    exact hP mi h ⟨g1, g2, g3, g4, g5⟩
  · rw [if_neg q, if_neg q]
    refine hR _ _ h (fun P hP => ?_)
    have e4 : mm_up (mm_up mi 60 (mi 59 1).toNat v) 59 1 (mi 59 1 + 1) 69 4 = mi 59 1 := by rw [mm_up_ne (by decide), mm_up_ne (by decide)]; exact g4
    refine sp122 (by rw [e4]; exact g3) ?_
    rw [e4, if_neg q, if_neg q]
    refine hP _ h ⟨?_, ?_, ?_, ?_, ?_⟩
    · have e1 : mm_up (mm_up (mm_up (mm_up mi 60 (mi 59 1).toNat v) 59 1 (mi 59 1 + 1)) 71 (mi 59 1).toNat v) 69 4 (mi 59 1 + 1) 69 1 = mi 69 1 := by rw [mm_up_at2 (by decide), mm_up_ne (by decide), mm_up_ne (by decide), mm_up_ne (by decide)]
      have eb : ∀ i, kBlk (mm_up (mm_up (mm_up (mm_up mi 60 (mi 59 1).toNat v) 59 1 (mi 59 1 + 1)) 71 (mi 59 1).toNat v) 69 4 (mi 59 1 + 1)) i = kBlk mi i := fun i => mB_eq (by rw [mm_up_ne (by decide), mm_up_ne (by decide), mm_up_ne (by decide), mm_up_ne (by decide)]) _
      rw [e1]
      exact (g1.co (fun x hx => by rw [mm_up_ne (by omega), mm_up_ne (by omega), mm_up_ne (by omega), mm_up_ne (by omega)])).eq (eb 0) (eb 5) (fun i _ _ => eb i)
    · rw [mm_up_ne (by decide), mm_up_ne (by decide), mm_up_ne (by decide), mm_up_ne (by decide), mm_up_at2 (by decide), mm_up_ne (by decide), mm_up_ne (by decide), mm_up_ne (by decide)]
      exact g2
    · rw [mm_up_ne (by decide), mm_up_ne (by decide), mm_up_at]
      omega
    · rw [mm_up_at, mm_up_ne (by decide), mm_up_ne (by decide), mm_up_at]
    · funext j
      rw [mm_up_ne (a := 69) (b := 71) (by decide), mm_up_ne (a := 69) (b := 60) (by decide), mm_up_ne (a := 71) (b := 60) (by decide), mm_up_ne (a := 59) (b := 60) (by decide), mm_up_if, mm_up_if, mm_up_ne (a := 59) (b := 71) (by decide), mm_up_ne (a := 60) (b := 71) (by decide), g5]
theorem pr7 (hG : bothG mi h) : pairC X 67 123 [] mi h := by
  intro R hR
  obtain ⟨g1, g2, g3, g4, g5⟩ := hG
  refine sp67 (hR _ _ h (fun P hP => sp123 ?_))
  rw [mm_up_ne (a := 59) (b := 69) (by decide), g4]
  refine hP _ h ⟨?_, ?_, ?_, ?_, ?_⟩
  · have e1 : mm_up (mm_up mi 59 1 0) 69 4 0 69 1 = mi 69 1 := by rw [mm_up_at2 (by decide), mm_up_ne (by decide)]
    have eb : ∀ i, kBlk (mm_up (mm_up mi 59 1 0) 69 4 0) i = kBlk mi i := fun i => mB_eq (by rw [mm_up_ne (by decide), mm_up_ne (by decide)]) _
    rw [e1]
    exact (g1.co (fun x hx => by rw [mm_up_ne (by omega)]; exact (by
      by_cases e : x = 59
      · omega
      · exact mm_up_ne e))).eq (eb 0) (eb 5) (fun i _ _ => eb i)
  · rw [mm_up_ne (by decide), mm_up_ne (by decide), mm_up_at2 (by decide), mm_up_ne (by decide)]
    exact g2
  · rw [mm_up_ne (by decide), mm_up_at]
    decide
  · rw [mm_up_at, mm_up_ne (by decide), mm_up_at]
  · rw [mm_up_ne (by decide), mm_up_ne (by decide), mm_up_ne (by decide), mm_up_ne (by decide)]
    exact g5
theorem pr8 (hG : bothG mi h) : pairC X 68 134 [] mi h := by
  intro R hR
  have hG' := hG
  obtain ⟨g1, g2, g3, g4, g5⟩ := hG
  have hmod : ∀ m1 h1 (P : Option mm_V → mm_S → Prop), kBlk m1 0 = kBlk mi 0 → m1 69 1 = mi 69 1 → m1 71 = mi 71 → m1 69 4 = mi 69 4 → (0 ≤ pFau (mi 60) (mi 59 1) 61 0 → ∀ m2, kKeep m1 m2 → P (some (.inl (-100 - pFau (mi 60) (mi 59 1) 61 0))) (mm_ms0 m2 h1)) → (pFau (mi 60) (mi 59 1) 61 0 < 0 → kAct m1 h1 P (pRun (mi 60) (mi 59 1) 61 0 0 (kBlk mi 0))) → mcl X 134 [.inr (some 69)] (mm_ms0 m1 h1) P := by
    intro m1 h1 P e0 e1 e71 e4 k1 k2
    refine sp134 (I := bAll) (fun B hB => hB.1.ok) (fun B s hB hb => kDo_keep hB hb) (by rw [e4, g4]; exact g3) (by rw [e1]; exact g1.1.2.1) (by rw [e0]; exact both_ok hG') ?_ ?_
    · rw [e71, g5, e4, g4]
      exact k1
    · rw [e71, g5, e4, g4, e0]
      exact k2
  refine sp68 g1 g3 (fun hf m1 r1 r2 r3 => ?_) (fun hf => ?_)
  · exact hR _ m1 h (fun P hP => hmod m1 h P (r2.blk 0) (by rw [r2.k]) (r2.1 71 (by omega)) (by rw [r2.k]) (fun _ m2 hK => hP m2 h (both_keep hG' r1 r2 r3 hK)) (fun z => by omega))
  · refine ⟨fun hlt m1 r1 r2 r3 => ?_, fun hge m1 h1 r1 r2 r3 => ?_⟩
    · exact hR _ m1 h (fun P hP => hmod m1 h P (r2.blk 0) (by rw [r2.k]) (r2.1 71 (by omega)) (by rw [r2.k]) (fun z => by omega) (fun _ => ⟨fun _ m2 hK => hP m2 h (both_keep hG' r1 r2 r3 hK), fun z => by omega⟩))
    · exact hR _ m1 h1 (fun P hP => hmod m1 h1 P (r2.blk 0) (by rw [r2.k]) (r2.1 71 (by omega)) (by rw [r2.k]) (fun z => by omega) (fun _ => ⟨fun z => by omega, fun _ m2 hT => hP m2 h1 (both_take hG' r1 r2 r3 hT)⟩))
end PR
