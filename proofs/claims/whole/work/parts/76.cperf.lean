-- THE CLASS performs a script
theorem kDo_same {B : Int → Int} (hI : bInv B) {s : pS} (h9 : (kDo B s).1 = -9) : (kDo B s).2 = B := by
  have hb : ¬ kBadA (kDo B s).1 := fun z => z.2 h9
  unfold kDo at h9 hb ⊢
  by_cases q0 : s.1 = 0
  · rw [if_pos q0] at h9 hb
    exfalso
    rw [kIns_ok (kIns_good hI hb)] at h9
    have : 0 ≤ kRows (kInsB B (100 * s.2.1 + s.2.2.1) s.2.2.2.1 s.2.2.2.2) s.2.1 := cnt_nn _ _
    dsimp only at h9
    omega
  · rw [if_neg q0] at h9 hb ⊢
    by_cases q1 : s.1 = 1
    · rw [if_pos q1] at h9 hb
      exfalso
      obtain ⟨a1, a2, a3⟩ := kDele_good hb
      rw [a3] at h9
      dsimp only at h9
      generalize (kOut B (100 * s.2.1 + s.2.2.1)).length = len at h9
      omega
    · rw [if_neg q1] at h9 hb ⊢
      exact kUpd_same hI h9
theorem pNum_in {tx : Nat → Int} {n : Int} : ∀ (f : Nat) (a : Int), 0 ≤ pNum tx n f a ∧ pNum tx n f a ≤ f := by
  intro f
  induction f with
  | zero => intro a; exact ⟨Int.le_refl _, Int.le_refl _⟩
  | succ f ih =>
    intro a
    unfold pNum
    cases hs : pSt tx n a with
    | mk o a2 =>
      cases o with
      | none => dsimp only; omega
      | some s =>
        dsimp only
        split
        · omega
        · split
          · have := ih (a2 + 1)
            omega
          · omega
/-- only the State now and the Deletion have changed -/
def cF85 (mi m2 : mm_M) : Prop := ∀ a, ¬ (1 ≤ a ∧ a ≤ 8) → ¬ (61 ≤ a ∧ a ≤ 65) → m2 a = mi a
section CPF
variable {X : Nat × (Nat → Int)} {mi : mm_M} {h : mm_H} {Q : Option mm_V → mm_S → Prop} {B : Int → Int} {Bs : Nat → Int → Int} {n : Int}
theorem sp85 {s : pS} (hG : cGot mi s) (hS : cSB mi 1 B) (hb : (kDo B s).1 < -1 → ∀ m2, cSB m2 1 B → cF85 mi m2 → Q (some (.inl (kDo B s).1)) (mm_ms0 m2 h)) (hk : -1 ≤ (kDo B s).1 → ∀ m2, cSB m2 1 (kDo B s).2 → cF85 mi m2 → Q (some (.inl 0)) (mm_ms0 m2 h)) : mcl X 85 [.inr (some 0)] (mm_ms0 mi h) Q := by
  obtain ⟨k2, k3, k4, k67, k56, k0⟩ := hG
  have w0 := hS.1.1.1.1
  unfold kDo at hb hk
  rw [c85, b85_0, k2]
  by_cases q0 : s.1 = 0
  · obtain ⟨k6, k7⟩ := k67 q0
    rw [if_pos q0] at hb hk
    rw [if_pos q0, if_pos rfl, b85_32, k3, k4, k6, k7]
    refine sp50 hS.1 ?_ ?_
    · intro hlt
      rw [mm_psh_i, b85_67, if_neg (by omega), b85_108]
      exact hb hlt mi hS (fun _ _ _ => rfl)
    · intro hok
      have hkeep := kIns_keep hS.1.1 hS.2 hok
      have hpos : -1 ≤ (kIns B s.2.1 s.2.2.1 s.2.2.2.1 s.2.2.2.2).1 := by
        rw [kIns_ok hok]
        have : 0 ≤ kRows (kInsB B (100 * s.2.1 + s.2.2.1) s.2.2.2.1 s.2.2.2.2) s.2.1 := cnt_nn _ _
        dsimp only
        omega
      rw [mm_psh_i, b85_67, if_pos rfl, b85_72, k3, k4, k6, k7]
      refine sp55 hS.1 hok ?_
      intro m3 hS3 hF3
      rw [mm_psh_i, b85_107, b85_108]
      exact hk hpos m3 ⟨hS3, hkeep.2⟩ (fun a h1 _ => hF3 a h1)
  · rw [if_neg q0] at hb hk
    rw [if_neg q0]
    by_cases q1 : s.1 = 1
    · rw [if_pos q1] at hb hk
      rw [if_pos q1, if_neg (by decide), if_pos rfl, b85_110, k3, k4]
      unfold kDele at hb hk
      have fd : ∀ m2, cFD mi m2 → cSB m2 1 B ∧ cF85 mi m2 := fun m2 hF => ⟨hS.co (fun j hj => hF _ (by omega)), fun a _ h2 => hF a h2⟩
      refine sp5 hS.1 ?_ ?_ ?_
      · intro hn
        rw [if_neg hn] at hb
        rw [mm_psh_i, b85_135, if_neg (by decide), b85_152]
        exact hb (by dsimp only; decide) mi hS (fun _ _ _ => rfl)
      · intro hrow hw m1 hF1 hP y2 y3 y4
        have hx : 0 ≤ 100 * s.2.1 + s.2.2.1 ∧ 100 * s.2.1 + s.2.2.1 < 600 := by
          have := hrow.1
          have := hrow.2.1
          omega
        have hkeep := kDele_keep hS.1.1 hS.2 hrow hw
        rw [if_pos hrow, hw] at hk
        dsimp only at hk
        obtain ⟨g1, g2⟩ := fd m1 hF1
        rw [mm_psh_i, b85_135, if_pos rfl, b85_140]
        refine sp15 g1.1 hx hrow.2.2 hw hP y4 ?_
        intro m3 hS3 hF3
        rw [mm_psh_i, b85_151, b85_152]
        generalize kDel B (100 * s.2.1 + s.2.2.1) = D at hk hkeep hS3
        generalize (kOut B (100 * s.2.1 + s.2.2.1)).length = len at hk
        exact hk (by omega) m3 ⟨hS3, hkeep.2⟩ (fun a h1 h2 => by rw [hF3 a h1, g2 a h1 h2])
      · intro hrow e hw m1 hF1 hP y2 y3
        rw [if_pos hrow, hw] at hb
        dsimp only at hb
        obtain ⟨g1, g2⟩ := fd m1 hF1
        rw [mm_psh_i, b85_135, if_neg (by decide), b85_152]
        exact hb (by decide) m1 g1 g2
    · have q2 : s.1 = 2 := by omega
      obtain ⟨k5, k6⟩ := k56 q2
      rw [if_neg q1] at hb hk
      rw [if_neg q1, if_neg (by decide), if_neg (by decide), b85_154, k3, k4, k5, k6]
      refine sp51 hS.1 ?_ ?_
      · intro hlt
        rw [mm_psh_i, b85_189, if_neg (by omega), b85_230]
        exact hb hlt mi hS (fun _ _ _ => rfl)
      · intro hok
        have hkeep := kUpd_keep hS.1.1 hS.2 hok.1 hok.2.1 hok.2.2.2.1
        have hc2 := hS.1.1.2.1 s.2.1
        have hx : 0 ≤ 100 * s.2.1 + s.2.2.1 ∧ 100 * s.2.1 + s.2.2.1 < 600 := by
          have := hok.1.1.1
          have := hok.1.1.2.1
          omega
        have hv := kV_in2 (c := s.2.2.2.1) ⟨hok.1.1.2.2, (hS.1.1.1.2.2.2 _ hx.1 hx.2).2⟩
        rw [kUpd_ok hok] at hk
        rw [mm_psh_i, b85_189, if_pos rfl, b85_194, k3, k4, k5, k6]
        refine sp56 hS.1 hok.1.1 (by have := hok.1.2; omega) hok.2.1 ?_
        intro m3 hS3 hF3
        rw [mm_psh_i, b85_229, b85_230]
        exact hk (by dsimp only; omega) m3 ⟨hS3, hkeep.2⟩ (fun a h1 _ => hF3 a (by omega))
/-- what stays while a script is performed -/
def cFPf (mi m : mm_M) : Prop := (∀ x, x = 0 ∨ (16 < x ∧ x < 59) ∨ x = 60 ∨ 69 ≤ x → m x = mi x) ∧ m 59 1 = mi 59 1
theorem sp68 (hR : cRel mi h Bs n) (h60 : 0 ≤ mi 59 1 ∧ mi 59 1 ≤ 60) (hb : 0 ≤ pFau (mi 60) (mi 59 1) 61 0 → ∀ m2, cRel m2 h Bs n → cOut mi m2 → m2 0 3 = mi 0 3 → Q (some (.inl (-100 - pFau (mi 60) (mi 59 1) 61 0))) (mm_ms0 m2 h))
    (hr : pFau (mi 60) (mi 59 1) 61 0 < 0 → cAct mi h Q Bs n (pRun (mi 60) (mi 59 1) 61 0 0 (Bs 0))) : mcl X 68 [.inr (some 0)] (mm_ms0 mi h) Q := by
  rw [c68, b68_0]
  refine sp24 h60 ?_ ?_
  · intro hf m1 hF1
    rw [mm_psh_i, b68_7, if_pos (by omega), b68_12]
    exact hb hf m1 (hR.co (fun x hx => hF1.1 x (by omega))) ⟨fun a ha => hF1.1 a (by omega), hF1.2 1 (by decide)⟩ (by rw [hF1.1 0 (by decide)])
  · intro hf m1 hF1
    have hA := hr hf
    have hN := pNum_in (tx := mi 60) (n := mi 59 1) 61 0
    have hR1 : cRel m1 h Bs n := hR.co (fun x hx => hF1.1 x (by omega))
    rw [mm_psh_i, b68_7, if_neg (by omega), b68_14]
    refine sp34p9_1 ?_
    intro m2 hC2 hF2
    have hS2 : cSB m2 1 (Bs 0) := hR1.2.1.co (fun j hj => hF2 _ (by omega))
    have hB2 : cSB m2 9 (Bs 0) := ⟨hR1.2.1.1.cp hC2, hR1.2.1.2⟩
    rw [mm_psh_n, b68_25]
    refine sp23 ?_
    have hS3 : cSB (mm_up m2 59 8 0) 1 (Bs 0) := hS2.co (fun j hj => by rw [mm_up_ne (by omega)])
    have hB3 : cSB (mm_up m2 59 8 0) 9 (Bs 0) := hB2.co (fun j hj => by rw [mm_up_ne (by omega)])
    have hP3 : cFPf mi (mm_up m2 59 8 0) := ⟨fun x hx => by rw [mm_up_ne (by omega), hF2 x (by omega), hF1.1 x (by omega)], by rw [mm_up_at2 (by decide), hF2 59 (by omega), hF1.2 1 (by decide)]⟩
    have e8 : mm_up m2 59 8 0 59 8 = 0 := mm_up_at
    generalize mm_up m2 59 8 0 = m3 at hS3 hB3 hP3 e8 ⊢
    rw [mm_psh_n, b68_32]
    -- the end: the state ahead is remembered
    have fin : ∀ (m : mm_M) (B : Int → Int) (c : Int) (o3 : Option mm_V), cFPf mi m → cSB m 9 (Bs 0) → cSB m 1 B → 0 ≤ c → cAct mi h Q Bs n (c, B) → mwp X 68 91 [some (.inr (some 0)), some (.inl c), some (.inl c), o3] [] (mm_ms0 m h) Q := by
      intro m B c o3 hP h9 h1 hc hA
      have hH : cHi m h Bs n := by
        obtain ⟨hh, hn4, h25, hst⟩ := hR.1
        refine ⟨hh, hn4, by rw [hP.1 25 (by omega)]; exact h25, fun i hi => ?_⟩
        have hx := hh.2.1 i (by omega)
        unfold hSt at hx
        exact (hst i hi).co (fun j hj => hP.1 _ (by omega))
      rw [b68_91]
      refine sp18 (Or.inr rfl) hH h9 ?_
      intro m5 h5 hH5 hF5
      rw [mm_psh_n, b68_102]
      have h15 : cSB m5 1 B := h1.co (fun j hj => hF5 _ (by omega))
      refine hA.2 (by dsimp only; omega) m5 h5 ⟨hH5.eq (fun i a b => ?_), h15, by rw [hF5 0 (by omega), hP.1 0 (by omega)]; exact hR.2.2.1, fun z => ?_⟩ ⟨fun a ha => by rw [hF5 a (by omega), hP.1 a (by omega)], by rw [hF5 59 (by omega)]; exact hP.2⟩ (by rw [hF5 0 (by omega), hP.1 0 (by omega)])
      · have := hH5.2.1.2
        unfold aTk
        rw [if_neg (by omega), if_neg (by omega)]
      · rw [hF5 0 (by omega), hP.1 0 (by omega)] at z
        exact (hR.2.2.2 z).co (fun j hj => by rw [hF5 _ (by omega), hP.1 _ (by omega)])
    have key : ∀ (f : Nat) (a c : Int) (B : Int → Int) (m : mm_M) (o3 : Option mm_V), cFPf mi m → m 59 8 = a → 0 ≤ a ∧ a ≤ mi 59 1 → 0 ≤ c → c + pNum (mi 60) (mi 59 1) f a ≤ 61 → cSB m 9 (Bs 0) → cSB m 1 B → pFau (mi 60) (mi 59 1) f a < 0 → cAct mi h Q Bs n (pRun (mi 60) (mi 59 1) f a c B) → mwp X 68 34 [some (.inr (some 0)), some (.inl (c + pNum (mi 60) (mi 59 1) f a)), some (.inl c), o3] [] (mm_ms0 m h) Q := by
      intro f
      induction f with
      | zero => intro a c B m o3 _ _ ha _ _ _ _ hfa; exact absurd hfa (by show ¬ a < 0; omega)
      | succ f ih =>
        intro a c B m o3 hP e8 ha hc hc61 h9 h1 hfa hA
        obtain ⟨p1, p2, p3⟩ := pSt_in (tx := mi 60) ha.2
        unfold pFau at hfa
        unfold pRun at hA
        unfold pNum at hc61 ⊢
        have e60 : m 60 = mi 60 := hP.1 60 (by omega)
        have e1 : m 59 1 = mi 59 1 := hP.2
        have hpk : qOk m := by unfold qOk; rw [e8, e1]; omega
        cases hs : pSt (mi 60) (mi 59 1) a with
        | mk o a2 =>
          rw [hs] at hfa hA p1 p2 p3 hc61
          dsimp only at p1 p2 p3
          cases o with
          | none => dsimp only at hfa; omega
          | some s =>
            dsimp only at hfa hA hc61 ⊢
            have hpos : (if a2 = mi 59 1 then (1 : Int) else if pHit (mi 60) (mi 59 1) a2 59 59 then 1 + pNum (mi 60) (mi 59 1) f (a2 + 1) else 0) = if pHit (mi 60) (mi 59 1) a2 59 59 then 1 + pNum (mi 60) (mi 59 1) f (a2 + 1) else 1 := by
              by_cases z : a2 = mi 59 1
              · rw [if_pos z, if_neg (fun y => by have := y.1; omega)]
              · rw [if_neg z] at hfa ⊢
                by_cases y : pHit (mi 60) (mi 59 1) a2 59 59
                · rw [if_pos y, if_pos y]
                · rw [if_neg y] at hfa
                  omega
            rw [hpos] at hc61 ⊢
            have hnn := pNum_in (tx := mi 60) (n := mi 59 1) f (a2 + 1)
            have hlt : c < c + (if pHit (mi 60) (mi 59 1) a2 59 59 then 1 + pNum (mi 60) (mi 59 1) f (a2 + 1) else 1) := by split <;> omega
            have pa := p3 s rfl
            rw [b68_34, if_pos hlt, b68_39]
            refine sp25 hpk ?_ ?_
            · intro z
              rw [e60, e1, e8, hs] at z
              cases z
            · intro s2 z m4 hF4 k8 hG
              rw [e60, e1, e8, hs] at z k8
              dsimp only at z k8
              cases z
              have hP4 : cFPf mi m4 := ⟨fun x hx => by rw [hF4.1 x (by omega)]; exact hP.1 x hx, by rw [hF4.2 1 (by decide)]; exact e1⟩
              have h94 : cSB m4 9 (Bs 0) := h9.co (fun j hj => hF4.1 _ (by omega))
              have h14 : cSB m4 1 B := h1.co (fun j hj => hF4.1 _ (by omega))
              have g60 : m4 60 = mi 60 := hP4.1 60 (by omega)
              have hpk4 : qOk m4 := by unfold qOk; rw [k8, hP4.2]; omega
              -- the statement, with the place behind it
              have act : ∀ (m5 : mm_M) (u : Int), cFPf mi m5 → cSB m5 9 (Bs 0) → cSB m5 1 B → cGot m5 s → (∀ (m6 : mm_M) (B6 : Int → Int) (v : Int), ¬ kBadA (kDo B s).1 → B6 = (kDo B s).2 → cFPf mi m6 → m6 59 8 = m5 59 8 → cSB m6 9 (Bs 0) → cSB m6 1 B6 → mwp X 68 85 [some (.inr (some 0)), some (.inl (c + (if pHit (mi 60) (mi 59 1) a2 59 59 then 1 + pNum (mi 60) (mi 59 1) f (a2 + 1) else 1))), some (.inl c), some (.inl v)] [] (mm_ms0 m6 h) Q) → mwp X 68 56 [some (.inr (some 0)), some (.inl (c + (if pHit (mi 60) (mi 59 1) a2 59 59 then 1 + pNum (mi 60) (mi 59 1) f (a2 + 1) else 1))), some (.inl c), o3] [.inl u] (mm_ms0 m5 h) Q := by
                intro m5 u hP5 h95 h15 hG5 go
                have fr : ∀ m6, cF85 m5 m6 → cFPf mi m6 ∧ m6 59 8 = m5 59 8 ∧ cSB m6 9 (Bs 0) := fun m6 hF => ⟨⟨fun x hx => by rw [hF x (by omega) (by omega)]; exact hP5.1 x hx, by rw [hF 59 (by omega) (by omega)]; exact hP5.2⟩, by rw [hF 59 (by omega) (by omega)], h95.co (fun j hj => hF _ (by omega) (by omega))⟩
                rw [b68_56]
                refine sp85 hG5 h15 ?_ ?_
                · intro hlt m6 h16 hF6
                  obtain ⟨f1, f2, f3⟩ := fr m6 hF6
                  rw [mm_psh_i, b68_61, if_neg (by omega), b68_66]
                  by_cases q9 : (kDo B s).1 = -9
                  · rw [if_pos q9]
                    exact go m6 B _ (fun z => z.2 q9) (kDo_same h15.1.1 q9).symm f1 f2 f3 h16
                  · have hbad : kBadA (kDo B s).1 := ⟨hlt, q9⟩
                    rw [if_pos hbad] at hA
                    rw [if_neg q9, b68_72]
                    refine sp34p1_9 ?_
                    intro m7 hC7 hF7
                    rw [mm_psh_n, b68_83]
                    have hS7 : cSB m7 1 (Bs 0) := ⟨f3.1.cp hC7, f3.2⟩
                    have fx : ∀ x, x = 0 ∨ (16 < x ∧ x < 59) ∨ x = 60 ∨ 69 ≤ x → m7 x = mi x := fun x hx => by rw [hF7 x (by omega)]; exact f1.1 x hx
                    refine hA.1 hlt m7 ⟨?_, hS7, by rw [fx 0 (Or.inl rfl)]; exact hR.2.2.1, fun z => ?_⟩ ⟨fun a ha => fx a (by omega), by rw [hF7 59 (by omega)]; exact f1.2⟩ (by rw [fx 0 (Or.inl rfl)])
                    · obtain ⟨hh, hn4, h25, hst⟩ := hR.1
                      refine ⟨hh, hn4, by rw [fx 25 (by omega)]; exact h25, fun i hi => ?_⟩
                      have hx := hh.2.1 i (by omega)
                      unfold hSt at hx
                      exact (hst i hi).co (fun j hj => fx _ (by omega))
                    · rw [fx 0 (Or.inl rfl)] at z
                      exact (hR.2.2.2 z).co (fun j hj => fx _ (by omega))
                · intro hge m6 h16 hF6
                  obtain ⟨f1, f2, f3⟩ := fr m6 hF6
                  rw [mm_psh_i, b68_61, if_pos rfl]
                  exact go m6 _ 0 (fun z => by have := z.1; omega) rfl f1 f2 f3 h16
              rw [mm_psh_i, b68_46]
              refine sp32 hpk4 ?_ ?_
              · intro q2
                rw [g60, hP4.2, k8] at q2
                have q2' := q2.1
                have hfa2 : pFau (mi 60) (mi 59 1) f (a2 + 1) < 0 := by
                  rw [if_neg (by omega), if_pos q2] at hfa
                  exact hfa
                rw [mm_psh_i]
                refine act _ _ ⟨fun x hx => by rw [mm_up_ne (by omega)]; exact hP4.1 x hx, by rw [mm_up_at2 (by decide)]; exact hP4.2⟩ (h94.co (fun j hj => by rw [mm_up_ne (by omega)])) (h14.co (fun j hj => by rw [mm_up_ne (by omega)])) ?_ ?_
                · unfold cGot at hG ⊢
                  rw [mm_up_at2 (by decide), mm_up_at2 (by decide), mm_up_at2 (by decide), mm_up_at2 (by decide), mm_up_at2 (by decide), mm_up_at2 (by decide)]
                  exact hG
                · intro m6 B6 v hnb hB6 f1 f2 f3 f4
                  rw [if_neg hnb, if_pos q2, ← hB6] at hA
                  rw [if_pos q2] at hc61 ⊢
                  rw [mm_up_at, k8] at f2
                  rw [b68_85, mm_wi (z := c + 1) (by omega) (by omega), show c + (1 + pNum (mi 60) (mi 59 1) f (a2 + 1)) = c + 1 + pNum (mi 60) (mi 59 1) f (a2 + 1) by omega]
                  exact ih (a2 + 1) (c + 1) B6 m6 _ f1 f2 (by omega) (by omega) (by omega) f3 f4 hfa2 hA
              · intro q2
                rw [g60, hP4.2, k8] at q2
                rw [mm_psh_i]
                refine act _ _ hP4 h94 h14 hG ?_
                intro m6 B6 v hnb hB6 f1 f2 f3 f4
                rw [if_neg hnb, if_neg q2, ← hB6] at hA
                rw [if_neg q2] at hc61 ⊢
                rw [b68_85, mm_wi (z := c + 1) (by omega) (by omega), b68_34, if_neg (by omega)]
                exact fin m6 B6 (c + 1) _ f1 f3 f4 (by omega) hA
    have := key 61 0 0 (Bs 0) m3 none hP3 e8 (by omega) (by omega) (by omega) hB3 hS3 hf hA
    rw [Int.zero_add] at this
    exact this
end CPF
