-- CLASS AND REFERENCE side by side: history, snapshot, questions
section PS
variable {X : Nat × (Nat → Int)} {mi : mm_M} {h : mm_H}
theorem pr9 (hG : bothG mi h) : pairC X 69 135 [] mi h := by
  intro R hR
  obtain ⟨g1, g2, g3, g4, g5⟩ := hG
  have hn := g1.1.2.1
  refine sp69 g1 (fun z => ?_) (fun z m1 r1 r2 r3 => ?_)
  · exact hR _ mi h (fun P hP => sp135 hn (fun _ => hP mi h ⟨g1, g2, g3, g4, g5⟩) (fun y => by omega))
  · refine hR _ m1 h (fun P hP => sp135 (by rw [r2.k]; exact hn) (fun y => by rw [r2.k] at y; omega) (fun _ => ?_))
    rw [r2.k]
    have eb : ∀ i, kBlk (mm_up (kCp m1 (mi 69 1).toNat 0) 69 1 (mi 69 1 - 1)) i = kBlk (kCp m1 (mi 69 1).toNat 0) i := fun i => mB_eq (mm_up_ne (by decide)) _
    have e0 : kBlk (kCp m1 (mi 69 1).toNat 0) 0 = kBlk mi (mi 69 1).toNat := (kCp_at _ _ _).trans (r2.blk _)
    have ei : ∀ i, i ≠ 0 → kBlk (kCp m1 (mi 69 1).toNat 0) i = kBlk mi i := fun i hi => (kCp_off hi).trans (r2.blk _)
    have lo : ∀ a, a ≠ 69 → a ≠ 70 → mm_up (kCp m1 (mi 69 1).toNat 0) 69 1 (mi 69 1 - 1) a = m1 a := fun a h1 h2 => by rw [mm_up_ne h1, kCp_ne h2]
    have l69 : ∀ k, k ≠ 1 → mm_up (kCp m1 (mi 69 1).toNat 0) 69 1 (mi 69 1 - 1) 69 k = mi 69 k := fun k hk => by rw [mm_up_at2 hk, kCp_ne (by decide), r2.k]
    refine hP _ h ⟨?_, ?_, by rw [lo 59 (by decide) (by decide), r2.2]; exact g3, ?_, ?_⟩
    · rw [mm_up_at]
      refine (r1.co (fun x hx => lo x (by omega) (by omega))).eq ?_ ?_ (fun i a b => ?_)
      · rw [eb, e0, if_pos rfl]
      · rw [eb, ei 5 (by decide), if_neg (by decide)]
      · rw [eb, ei i (by omega), if_neg (by omega)]
    · rw [lo 0 (by decide) (by decide), r3, l69 2 (by decide)]
      exact g2
    · rw [lo 59 (by decide) (by decide), r2.2, l69 4 (by decide)]
      exact g4
    · rw [lo 71 (by decide) (by decide), lo 60 (by decide) (by decide), r2.1 71 (by omega), r2.1 60 (by omega)]
      exact g5
theorem pr10 (hG : bothG mi h) : pairC X 70 136 [] mi h := by
  intro R hR
  have hok := both_ok hG
  obtain ⟨g1, g2, g3, g4, g5⟩ := hG
  have hn := g1.1.2.1
  refine sp70 g1 (fun m1 r1 r2 r3 => hR _ m1 h (fun P hP => sp136 (by rw [r2.blk]; exact hok.1.ok) ?_))
  rw [r2.blk]
  have eb : ∀ i, kBlk (mm_up (kCp m1 0 5) 69 2 1) i = kBlk (kCp m1 0 5) i := fun i => mB_eq (mm_up_ne (by decide)) _
  have e5 : kBlk (kCp m1 0 5) 5 = kBlk mi 0 := (kCp_at _ _ _).trans (r2.blk _)
  have ei : ∀ i, i ≠ 5 → kBlk (kCp m1 0 5) i = kBlk mi i := fun i hi => (kCp_off hi).trans (r2.blk _)
  have lo : ∀ a, a ≠ 69 → a ≠ 70 → mm_up (kCp m1 0 5) 69 2 1 a = m1 a := fun a h1 h2 => by rw [mm_up_ne h1, kCp_ne h2]
  have l69 : ∀ k, k ≠ 2 → mm_up (kCp m1 0 5) 69 2 1 69 k = mi 69 k := fun k hk => by rw [mm_up_at2 hk, kCp_ne (by decide), r2.k]
  refine hP _ h ⟨?_, ?_, by rw [lo 59 (by decide) (by decide), r2.2]; exact g3, ?_, ?_⟩
  · rw [l69 1 (by decide)]
    refine (r1.co (fun x hx => lo x (by omega) (by omega))).eq ?_ ?_ (fun i a b => ?_)
    · rw [eb, ei 0 (by decide), if_neg (by decide)]
    · rw [eb, e5, if_pos rfl]
    · rw [eb, ei i (by omega), if_neg (by omega)]
  · rw [lo 0 (by decide) (by decide), r3, mm_up_at]
  · rw [lo 59 (by decide) (by decide), r2.2, l69 4 (by decide)]
    exact g4
  · rw [lo 71 (by decide) (by decide), lo 60 (by decide) (by decide), r2.1 71 (by omega), r2.1 60 (by omega)]
    exact g5
theorem pr11 (hG : bothG mi h) : pairC X 71 137 [] mi h := by
  intro R hR
  have hG' := hG
  obtain ⟨g1, g2, g3, g4, g5⟩ := hG
  have hn := g1.1.2.1
  refine sp71 g1 (fun z => ?_) (fun z m1 h1 r1 r2 r3 => ?_)
  · exact hR _ mi h (fun P hP => sp137 hn (fun _ => hP mi h hG') (fun y => absurd (g2 ▸ z) y))
  · have hsn := g1.2.2.2 z
    refine hR _ m1 h1 (fun P hP => sp137 (by rw [r2.k]; exact hn) (fun y => absurd (by rw [r2.k] at y; rw [g2]; exact y) z) (fun _ => ?_))
    rw [r2.blk]
    exact ⟨hsn.1.1.ok, fun m2 hT => hP m2 h1 (both_take hG' r1 r2 r3 hT)⟩
theorem pr12 (hG : bothG mi h) {t : Int} : pairC X 72 138 [.inl t] mi h :=
  pair_ask hG (kGiveR (kBlk mi 0) t) (fun Q hq => sp72 hG.1.2.1.1 (hq mi (fun _ _ => rfl))) (fun m1 Q e0 e1 hq => sp138 (by rw [e0]; exact (both_ok hG).1.ok) (by rw [e0]; exact hq m1 kKeep.rf))
theorem pr13 (hG : bothG mi h) {t r : Int} (hr : -2147483648 ≤ r ∧ r < 2147483648) : pairC X 73 139 [.inl t, .inl r] mi h :=
  pair_ask hG (kKeyAt (kBlk mi 0) t r) (fun Q hq => sp73 hG.1.2.1.1 (hq mi (fun _ _ => rfl))) (fun m1 Q e0 e1 hq => sp139 (by rw [e0]; exact (both_ok hG).1.ok) hr (by rw [e0]; exact hq m1 kKeep.rf))
theorem pr14 (hG : bothG mi h) {t k c : Int} : pairC X 74 140 [.inl t, .inl k, .inl c] mi h :=
  pair_ask hG (kGiveV (kBlk mi 0) t k c) (fun Q hq => sp74 hG.1.2.1.1 (hq mi (fun _ _ => rfl))) (fun m1 Q e0 e1 hq => sp140 (by rw [e0]; exact (both_ok hG).1.ok) (by rw [e0]; exact hq m1 kKeep.rf))
theorem pr15 (hG : bothG mi h) {r k : Int} : pairC X 75 141 [.inl r, .inl k] mi h :=
  pair_ask hG (kGiveC (kBlk mi 0) r k) (fun Q hq => sp75 hG.1.2.1.1 (hq mi (fun _ _ => rfl))) (fun m1 Q e0 e1 hq => sp141 (by rw [e0]; exact (both_ok hG).1.ok) (by rw [e0]; exact hq m1 kKeep.rf))
theorem pr16 (hG : bothG mi h) {r w : Int} : pairC X 76 142 [.inl r, .inl w] mi h :=
  pair_ask hG (kGiveF (kBlk mi 0) r w) (fun Q hq => sp76 hG.1.2.1.1 (hq mi (fun _ _ => rfl))) (fun m1 Q e0 e1 hq => sp142 (by rw [e0]; exact (both_ok hG).1.ok) (by rw [e0]; exact hq m1 kKeep.rf))
theorem pr17 (hG : bothG mi h) {i : Int} : pairC X 77 143 [.inl i] mi h :=
  pair_ask hG (kGiveD (kBlk mi 0) i) (fun Q hq => sp77 hG.1.2.1.1 (hq mi (fun _ _ => rfl))) (fun m1 Q e0 e1 hq => sp143 (by rw [e0]; exact (both_ok hG).1.2.2.2.2.2.2) (by rw [e0]; exact hq m1 kKeep.rf))
theorem pr18 (hG : bothG mi h) {w : Int} : pairC X 78 145 [.inl w] mi h :=
  pair_ask hG (kTotC (kBlk mi 0) (mi 25 1) (mi 59 1) w) (fun Q hq => sp78 hG.1.2.1.1 (hq mi (fun _ _ => rfl))) (fun m1 Q e0 e1 hq => sp145 (by rw [e0]; exact (both_ok hG).1.ok) (by
    have e : kTot m1 w = kTotC (kBlk mi 0) (mi 25 1) (mi 59 1) w := by
      unfold kTot kTotC
      rw [e0, e1, hG.1.1.2.2.1, hG.2.2.2.1]
    rw [e]
    exact hq m1 kKeep.rf))
theorem cFD.askF {m1 : mm_M} (hF : cFD mi m1) : ∀ x, x ≤ 60 ∨ 69 ≤ x → m1 x = mi x := fun x hx => hF x (by omega)
theorem pr19 (hG : bothG mi h) {t k i : Int} : pairC X 79 146 [.inl t, .inl k, .inl i] mi h :=
  pair_ask hG (kGiveG (kBlk mi 0) t k i) (fun Q hq => sp79 hG.1.2.1.1 (fun m2 hF => hq m2 hF.askF)) (fun m1 Q e0 e1 hq => sp146 (by rw [e0]; exact (both_ok hG).1.ok) (by rw [e0]; exact hq))
theorem pr20 (hG : bothG mi h) {t k : Int} : pairC X 80 147 [.inl t, .inl k] mi h :=
  pair_ask hG (kGiveWhy (kBlk mi 0) t k) (fun Q hq => sp80 hG.1.2.1.1 (fun m2 hF => hq m2 hF.askF)) (fun m1 Q e0 e1 hq => sp147' (by rw [e0]; exact (both_ok hG).1.ok) (by rw [e0]; exact hq))
theorem pr21 (hG : bothG mi h) {t k : Int} : pairC X 81 148 [.inl t, .inl k] mi h :=
  pair_ask hG (kGiveBl (kBlk mi 0) t k) (fun Q hq => sp81 hG.1.2.1.1 (fun m2 hF => hq m2 hF.askF)) (fun m1 Q e0 e1 hq => sp148 (by rw [e0]; exact (both_ok hG).1.ok) (by rw [e0]; exact hq))
theorem pr22 (hG : bothG mi h) {t k : Int} : pairC X 82 149 [.inl t, .inl k] mi h :=
  pair_ask hG (kGiveWc (kBlk mi 0) t k) (fun Q hq => sp82 hG.1.2.1.1 (fun m2 hF => hq m2 hF.askF)) (fun m1 Q e0 e1 hq => sp149 (by rw [e0]; exact (both_ok hG).1.ok) (by rw [e0]; exact hq))
theorem pr23 (hG : bothG mi h) {t k : Int} : pairC X 83 151 [.inl t, .inl k] mi h :=
  pair_ask hG (kRing (kBlk mi 0) t k) (fun Q hq => sp83 hG.1.2.1.1 hG.1.2.1.2 (fun m2 hF => hq m2 (fun x hx => hF x (by omega)))) (fun m1 Q e0 e1 hq => sp151 (by rw [e0]; exact (both_ok hG).1.ok) (by rw [e0]; exact hq))
theorem pr24 (hG : bothG mi h) {t : Int} : pairC X 84 152 [.inl t] mi h :=
  pair_ask hG (kGiveDe (kBlk mi 0) t) (fun Q hq => sp84 hG.1.2.1.1 (fun m2 hF => hq m2 hF.askF)) (fun m1 Q e0 e1 hq => sp152 (by rw [e0]; exact (both_ok hG).1.ok) (by rw [e0]; exact hq))
end PS
