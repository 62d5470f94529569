-- THE LAW: what act leaves, a turn, the loop
section LK
variable {X : Nat × (Nat → Int)} {mi : mm_M} {h : mm_H} {Q : ml_A → mm_S → Prop} {Bs : Nat → Int → Int} {n : Int} {B snap : Int → Int}
theorem lG_dele (hI : bInv B) (hF : bFk B) (hG : lG B) {t k : Int} (h1 : -1 ≤ (kDele B t k).1) : lG (kDele B t k).2 := by
  obtain ⟨a1, a2, a3⟩ := kDele_good (B := B) (t := t) (k := k) (fun z => by have := z.1; omega)
  have hx : 0 ≤ 100 * t + k ∧ 100 * t + k < 600 := by
    have := hI.1.1
    have := a1.1
    have := a1.2.1
    omega
  have := lG_del hI hF hG hx a1.2.2 a2
  rw [a3]
  generalize kDel B (100 * t + k) = D at this ⊢
  exact this
theorem lG_upde (hI : bInv B) (hF : bFk B) (hG : lG B) {t k c v : Int} (h1 : -1 ≤ (kUpd B t k c v).1) : lG (kUpd B t k c v).2 := by
  obtain ⟨a1, a2, a3, a4, a5⟩ := kUpd_good (B := B) (t := t) (k := k) (c := c) (v := v) (fun z => by have := z.1; omega)
  rw [a5]
  exact lG_upd hI hF hG a1 a2 a3 a4
theorem lG_inse (hI : bInv B) (hF : bFk B) (hG : lG B) {t k v0 v1 : Int} (h1 : -1 ≤ (kIns B t k v0 v1).1) : lG (kIns B t k v0 v1).2 :=
  lG_ins hI hF hG (kIns_good hI (fun z => by have := z.1; omega))
theorem lG_setr (hI : bInv B) (hG : lG B) {r v : Int} (h1 : -1 ≤ (kSetR B r v).1) : lG (kSetR B r v).2 := by
  unfold kSetR at h1 ⊢
  by_cases q1 : 0 ≤ r ∧ r < B 1
  · rw [if_neg (fun z => z q1)] at h1 ⊢
    by_cases q2 : 0 ≤ v ∧ v ≤ 4
    · rw [if_neg (fun z => z q2)] at h1 ⊢
      by_cases q3 : kOf B r 3 = v
      · rw [if_pos q3] at h1
        exact absurd h1 (by dsimp only; decide)
      · rw [if_neg q3]
        exact lG_rule hI hG q1 q2
    · rw [if_pos q2] at h1
      exact absurd h1 (by dsimp only; decide)
  · rw [if_pos q1] at h1
    exact absurd h1 (by dsimp only; decide)
theorem lG_addt (hI : bInv B) (hG : lG B) (h1 : -1 ≤ (kAddT B).1) : lG (kAddT B).2 := by
  unfold kAddT at h1 ⊢
  have w0 := hI.1.1
  by_cases q1 : B 0 = 6
  · rw [if_pos q1] at h1
    exact absurd h1 (by dsimp only; decide)
  · rw [if_neg q1]
    exact lG_tab hI hG (by omega)
theorem lG_addr (hI : bInv B) (hG : lG B) {c p rule q d : Int} (h1 : -1 ≤ (kAddR B c p rule q d).1) : lG (kAddR B c p rule q d).2 := by
  unfold kAddR at h1 ⊢
  have w1 := hI.1.2.1
  have hc2 := hI.2.1 c
  by_cases q1 : kBadR B c p
  · rw [if_pos q1] at h1
    exact absurd h1 (by dsimp only; decide)
  · rw [if_neg q1] at h1 ⊢
    by_cases q2 : kBadN rule d
    · rw [if_pos q2] at h1
      exact absurd h1 (by dsimp only; decide)
    · rw [if_neg q2] at h1 ⊢
      by_cases q3 : B 1 = 12 ∨ kCols B c = 2
      · rw [if_pos q3] at h1
        exact absurd h1 (by dsimp only; decide)
      · rw [if_neg q3] at h1 ⊢
        by_cases q4 : 0 < kRows B c
        · rw [if_pos q4] at h1
          exact absurd h1 (by dsimp only; decide)
        · rw [if_neg q4]
          have g1 : (0 ≤ c ∧ c < B 0) ∧ (0 ≤ p ∧ p < B 0) := Classical.byContradiction (fun z => q1 z)
          have g2 : (0 ≤ rule ∧ rule ≤ 4) ∧ (-1 ≤ d ∧ d ≤ 99) := Classical.byContradiction (fun z => q2 z)
          exact lG_ref hI hG g1.1 g1.2 g2.1 g2.2 (by omega) (by omega) q4
theorem lAct_keep (hI : bInv B) (hF : bFk B) (hG : lG B) (hG5 : lG snap) {x y : Int} (h1 : -1 ≤ (lAct B snap x y).1) : lG (lAct B snap x y).2 := by
  unfold lAct lActZ at h1 ⊢
  generalize lup x 16 = z at h1 ⊢
  by_cases qd : z < 0 ∨ 9 < z
  · rw [if_pos qd] at h1 ⊢
    exact lG_inse hI hF hG h1
  · rw [if_neg qd] at h1 ⊢
    by_cases q0 : z = 0
    · rw [if_pos q0] at h1 ⊢
      exact lG_addt hI hG h1
    · rw [if_neg q0] at h1 ⊢
      by_cases q1 : z = 1
      · rw [if_pos q1] at h1 ⊢
        exact lG_addr hI hG h1
      · rw [if_neg q1] at h1 ⊢
        by_cases q2 : z = 2
        · rw [if_pos q2] at h1 ⊢
          exact lG_setr hI hG h1
        · rw [if_neg q2] at h1 ⊢
          by_cases q3 : z = 3
          · rw [if_pos q3] at h1 ⊢
            exact lG_setr hI hG h1
          · rw [if_neg q3] at h1 ⊢
            by_cases q4 : z = 4
            · rw [if_pos q4] at h1 ⊢
              exact lG_upde hI hF hG h1
            · rw [if_neg q4] at h1 ⊢
              by_cases q5 : z = 5
              · rw [if_pos q5] at h1 ⊢
                exact lG_upde hI hF hG h1
              · rw [if_neg q5] at h1 ⊢
                by_cases q6 : z = 6
                · rw [if_pos q6] at h1 ⊢
                  exact lG_upde hI hF hG h1
                · rw [if_neg q6] at h1 ⊢
                  by_cases q7 : z = 7
                  · rw [if_pos q7] at h1 ⊢
                    exact lG_dele hI hF hG h1
                  · rw [if_neg q7] at h1 ⊢
                    by_cases q8 : z = 8
                    · rw [if_pos q8] at h1 ⊢
                      exact lG_dele hI hF hG h1
                    · rw [if_neg q8] at h1 ⊢
                      by_cases q9 : lan y 7 = 0
                      · rw [if_pos q9]
                        exact hG5
                      · rw [if_neg q9] at h1 ⊢
                        exact lG_dele hI hF hG h1
theorem tlk {m2 : mm_M} {h2 : mm_H} (hI : lI m2 h2 Bs n) {P : Int64 → mm_S → Prop} (hP : P (lTold (Bs 0)) (mm_ms0 m2 h2)) : lwp X 0 ((0, mm_entry mi_L_told [.inr (some 0)], [], mm_ms0 m2 h2, 0, 0), [], []) (fun v S1 => ∃ z, v = .inr z ∧ P z S1) := spTold hI.S ⟨_, rfl, hP⟩
/-- behind undo the block is the one ahead of the change -/
theorem aTk_back (hn : 0 ≤ n ∧ n ≤ 4) (D : Int → Int) : aTk Bs n D (kAccN n).toNat = Bs 0 := by
  have hk1 : 1 ≤ kAccN n ∧ kAccN n ≤ 4 := by
    unfold kAccN
    split <;> omega
  have hc : (((kAccN n).toNat : Nat) : Int) = kAccN n := by omega
  have hne5 : ¬ (kAccN n).toNat = 5 := by omega
  have hne0 : ¬ (kAccN n).toNat = 0 := by omega
  unfold aTk aPush
  rw [if_neg hne0, if_neg hne5, if_pos hc]
abbrev wF (l2 l3 l4 : Int) (o5 o6 o9 o10 o13 : Option mm_V) : mm_L := [some (.inr none), some (.inr (some 0)), some (.inl l2), some (.inl l3), some (.inl l4), o5, o6, none, none, o9, o10, none, none, o13]
set_option maxHeartbeats 8000000 in
theorem law_turn {l2 i : Int} (hi : 0 ≤ i ∧ i < 44) (hI : lI mi h Bs n) (o5 o6 o9 o10 o13 : Option mm_V) (hq : ∀ m2 h2 Bs2 n2, lI m2 h2 Bs2 n2 → ∀ (o5 o6 o9 o10 o13 : Option mm_V), lwp X 2 ((141, wF l2 1 (i + 1) o5 o6 o9 o10 o13, [], mm_ms0 m2 h2, 69, 5899), [], []) Q) : lwp X 2 ((141, wF l2 1 i o5 o6 o9 o10 o13, [], mm_ms0 mi h, 69, 5899), [], []) Q := by
  -- the end of a turn
  have c399 : ∀ (m2 : mm_M) (h2 : mm_H) (Bs2 : Nat → Int → Int) (n2 : Int), lI m2 h2 Bs2 n2 → ∀ (x y l9 l10 : Int) (o13 : Option mm_V) (v11 v7 : Int64), lwp X 2 ((394, wF l2 1 i (some (.inl x)) (some (.inl y)) (some (.inl l9)) (some (.inl l10)) o13, [], mm_ms0 m2 h2, 69, 5899), [], [(11, v11), (7, v7)]) Q := by
    intro m2 h2 Bs2 n2 hI2 x y l9 l10 o13 v11 v7
    have last : ∀ (m2 : mm_M) (h2 : mm_H) (Bs2 : Nat → Int → Int) (n2 : Int), lI m2 h2 Bs2 n2 → lwp X 2 ((426, wF l2 1 i (some (.inl x)) (some (.inl y)) (some (.inl l9)) (some (.inl l10)) o13, [], mm_ms0 m2 h2, 69, 5899), [], [(11, v11), (7, v7)]) Q := by
      intro m2 h2 Bs2 n2 hI2
      refine zlw_426 (zlw_431 ?_)
      rw [mm_wi (by omega) (by omega)]
      exact hq m2 h2 Bs2 n2 hI2 _ _ _ _ _
    refine zlw_394 (zlw_399 (fun z => absurd z (by decide)) (fun _ => ?_))
    refine zlw_404 (fun _ => ?_) (fun _ => last m2 h2 Bs2 n2 hI2)
    refine zlw_414 ?_
    refine sp70 hI2.1 (fun m3 hR3 _ h03 => ?_)
    have hI3 : lI m3 h2 (fun j => if j = 5 then Bs2 0 else Bs2 j) n2 := ⟨hR3, h03, hI2.2.2.1, hI2.2.2.1⟩
    rw [mm_psh_i]
    refine zlw_418 ?_
    refine sp78 hI3.S ?_
    rw [kTotC_2, mm_psh_i]
    exact zlw_423 (fun _ => last m3 h2 _ n2 hI3) (fun z => absurd rfl z)
  have c344 : ∀ (m2 : mm_M) (h2 : mm_H) (Bs2 : Nat → Int → Int) (n2 : Int), lI m2 h2 Bs2 n2 → ∀ (x y l9 l10 : Int) (o13 : Option mm_V) (v11 v7 : Int64), lwp X 2 ((344, wF l2 1 i (some (.inl x)) (some (.inl y)) (some (.inl l9)) (some (.inl l10)) o13, [], mm_ms0 m2 h2, 69, 5899), [], [(11, v11), (7, v7)]) Q := by
    intro m2 h2 Bs2 n2 hI2 x y l9 l10 o13 v11 v7
    have hb2 := hI2.2.2.1.2.2
    refine zlw_344 (fun z => absurd z (by decide)) (fun _ => ?_)
    refine zlw_348 (fun _ => ?_) (fun _ => ?_)
    · refine zlw_355 ?_
      refine sp78 hI2.S ?_
      rw [kTotC_0, mm_psh_i]
      refine zlw_366 ?_
      rw [sp155 (by omega), mm_psh_i]
      refine zlw_369 ?_
      rw [sp155 (by decide), mm_psh_i]
      refine zlw_378 ?_
      refine spAhead hI2 (fun m3 h3 Bs3 n3 hI3 _ _ => ⟨_, rfl, ?_⟩)
      refine zlw_381 (fun z => absurd z (by decide)) (fun _ => ?_)
      exact zlw_384 (c399 m3 h3 Bs3 n3 hI3 _ _ _ _ _ _ _)
    · refine zlw_387 ?_
      refine sp159 hI2.S hI2.1.2.1.2 hI2.2.2.1 (fun m3 hF3 => ?_)
      rw [mm_psh_i]
      refine zlw_391 (fun z => absurd z (by decide)) (fun _ => ?_)
      exact c399 m3 h2 Bs2 n2 (hI2.fd hF3) _ _ _ _ _ _ _
  have hn4 := hI.1.1.2.1
  refine zlw_141 (fun _ => ?_) (fun z => absurd hi.2 z)
  refine zlw_148 (fun z => absurd z (by decide)) (fun _ => ?_)
  refine zlw_152 ?_
  rw [mm_wi (z := 2 * i) (by omega) (by omega), sp154 (by omega), mm_psh_i]
  refine zlw_160 ?_
  rw [mm_wi (z := 2 * i) (by omega) (by omega), mm_wi (z := 2 * i + 1) (by omega) (by omega), sp154 (by omega), mm_psh_i]
  generalize lcell X (2 * i) = x
  generalize lcell X (2 * i + 1) = y
  refine zlw_172 (tlk hI ?_)
  refine zlw_178 ?_
  refine sp78 hI.S ?_
  rw [kTotC_7, hI.1.1.2.2.1, mm_psh_i]
  refine zlw_186 ?_
  refine sp156 hI.1 (by rw [hI.2.1]; decide) ?_
  have hkeep := lAct_keep hI.S.1 hI.1.2.1.2 hI.2.2.1 hI.2.2.2 (x := x) (y := y)
  generalize hr : lAct (Bs 0) (Bs 5) x y = r at hkeep
  obtain ⟨a, D⟩ := r
  refine ⟨fun hlt m2 hR2 _ h03 => ?_, fun hge m2 h2 hR2 _ h03 => ?_⟩
  · have hI2 : lI m2 h Bs n := ⟨hR2, by rw [h03]; exact hI.2.1, hI.2.2⟩
    dsimp only at hlt ⊢
    rw [mm_psh_i]
    refine zlw_196 (tlk hI2 ?_)
    refine zlw_202 (fun _ => ?_) (fun z => absurd hlt z)
    refine zlw_210 (fun _ => ?_) (fun z => absurd (lg_cmp_0 _) z)
    refine zlw_218 ?_
    refine sp78 hI2.S ?_
    rw [kTotC_7, hI2.1.1.2.2.1, mm_psh_i]
    refine zlw_224 (fun _ => ?_) (fun z => absurd rfl z)
    refine zlw_229 (zlw_265 (fun z => absurd z (by decide)) (fun _ => ?_))
    refine zlw_270 (fun _ => ?_) (fun z => absurd hlt z)
    exact c344 m2 h Bs n hI2 _ _ _ _ _ _ _
  · have hI2 : lI m2 h2 (aTk Bs n D) (kAccN n) := ⟨hR2, by rw [h03]; exact hI.2.1, hkeep hge, hI.2.2.2⟩
    have eD : aTk Bs n D 0 = D := rfl
    have hk1 : 1 ≤ kAccN n ∧ kAccN n ≤ 4 := by
      unfold kAccN
      split <;> omega
    dsimp only at hge ⊢
    rw [mm_psh_i]
    refine zlw_196 (tlk hI2 ?_)
    rw [eD]
    refine zlw_202 (fun z => absurd z (by omega)) (fun _ => ?_)
    refine zlw_237 ?_
    refine sp78 hI2.S ?_
    rw [kTotC_7, hI2.1.1.2.2.1, mm_psh_i]
    have c265 : lwp X 2 ((265, wF l2 1 i (some (.inl x)) (some (.inl y)) (some (.inl n)) (some (.inl a)) o13, [.inl 1], mm_ms0 m2 h2, 69, 5899), [], [(11, lTold D), (7, lTold (Bs 0))]) Q := by
      refine zlw_265 (fun z => absurd z (by decide)) (fun _ => ?_)
      refine zlw_270 (fun z => absurd z (by omega)) (fun _ => ?_)
      refine zlw_276 (fun _ => ?_) (fun _ => c344 m2 h2 _ _ hI2 _ _ _ _ _ _ _)
      refine zlw_286 ?_
      refine sp78 hI2.S ?_
      rw [kTotC_7, hI2.1.1.2.2.1, mm_psh_i]
      refine zlw_292 ?_
      rw [mm_wi (z := kAccN n - 1) (by omega) (by omega)]
      refine sp69 hI2.1 (fun z => absurd z (by omega)) (fun _ m3 hR3 _ h033 => ?_)
      have e0 : (if (0 : Nat) = 0 then aTk Bs n D (kAccN n).toNat else aTk Bs n D 0) = Bs 0 := by
        rw [if_pos rfl]
        exact aTk_back hn4 D
      have hI3 : lI m3 h2 (fun i => if i = 0 then aTk Bs n D (kAccN n).toNat else aTk Bs n D i) (kAccN n - 1) := by
        refine ⟨hR3, by rw [h033]; exact hI2.2.1, ?_, ?_⟩
        · dsimp only
          rw [e0]
          exact hI.2.2.1
        · exact hI.2.2.2
      rw [mm_psh_i]
      refine zlw_300 (fun _ => ?_) (fun z => absurd rfl z)
      refine zlw_305 (tlk hI3 ?_)
      rw [e0]
      refine zlw_309 (fun _ => ?_) (fun z => absurd (lg_cmp_0 _) z)
      refine zlw_315 ?_
      refine sp156 hI3.1 (by rw [hI3.2.1]; decide) ?_
      have er : lAct (if (0 : Nat) = 0 then aTk Bs n D (kAccN n).toNat else aTk Bs n D 0) (if (5 : Nat) = 0 then aTk Bs n D (kAccN n).toNat else aTk Bs n D 5) x y = (a, D) := by
        rw [e0]
        exact hr
      show cAct m3 h2 _ _ _ (lAct (if (0 : Nat) = 0 then aTk Bs n D (kAccN n).toNat else aTk Bs n D 0) (if (5 : Nat) = 0 then aTk Bs n D (kAccN n).toNat else aTk Bs n D 5) x y)
      rw [er]
      refine ⟨fun z => absurd z (by dsimp only; omega), fun _ m4 h4 hR4 _ h034 => ?_⟩
      have hI4 : lI m4 h4 (aTk (fun i => if i = 0 then aTk Bs n D (kAccN n).toNat else aTk Bs n D i) (kAccN n - 1) D) (kAccN (kAccN n - 1)) := ⟨hR4, by rw [h034]; exact hI3.2.1, hkeep hge, hI.2.2.2⟩
      dsimp only
      rw [mm_psh_i]
      refine zlw_323 (fun _ => ?_) (fun z => absurd rfl z)
      refine zlw_328 (tlk hI4 ?_)
      refine zlw_332 (fun _ => ?_) (fun z => absurd (lg_cmp_0 _) z)
      exact zlw_338 (zlw_343 (c344 m4 h4 _ _ hI4 _ _ _ _ _ _ _))
    by_cases q4 : n < 4
    · refine zlw_243 (fun _ => ?_) (fun z => absurd q4 z)
      refine zlw_249 ?_
      rw [mm_wi (z := n + 1) (by omega) (by omega)]
      refine zlw_257 (fun _ => zlw_260 c265) (fun z => absurd ?_ z)
      unfold kAccN
      rw [if_pos q4]
    · refine zlw_243 (fun z => absurd z q4) (fun _ => ?_)
      refine zlw_256 ?_
      refine zlw_257 (fun _ => zlw_260 c265) (fun z => absurd ?_ z)
      unfold kAccN
      rw [if_neg q4]
      omega
theorem law_loop {l2 : Int} (hq : ∀ m2 h2, Q (.inl (.inl 1)) (mm_ms0 m2 h2)) : ∀ (d : Nat) (i : Int) (mi : mm_M) (h : mm_H) (Bs : Nat → Int → Int) (n : Int), 0 ≤ i → i + d = 44 → lI mi h Bs n → ∀ (o5 o6 o9 o10 o13 : Option mm_V), lwp X 2 ((141, wF l2 1 i o5 o6 o9 o10 o13, [], mm_ms0 mi h, 69, 5899), [], []) Q := by
  intro d
  induction d with
  | zero =>
    intro i mi h Bs n h0 h1 hI o5 o6 o9 o10 o13
    refine zlw_141 (fun z => absurd z (by omega)) (fun _ => ?_)
    refine zlw_438 (fun z => absurd z (by decide)) (fun _ => ?_)
    refine zlw_442 ?_
    refine sp159 hI.S hI.1.2.1.2 hI.2.2.1 (fun m3 hF3 => ?_)
    rw [mm_psh_i]
    refine zlw_446 (fun z => absurd z (by decide)) (fun _ => ?_)
    exact zlw_449 (zlw_454 (Or.inr rfl) (hq m3 h))
  | succ d ih =>
    intro i mi h Bs n h0 h1 hI o5 o6 o9 o10 o13
    exact law_turn ⟨h0, by omega⟩ hI o5 o6 o9 o10 o13 (fun m2 h2 Bs2 n2 hI2 o5 o6 o9 o10 o13 => ih (i + 1) m2 h2 Bs2 n2 (by omega) (by omega) hI2 o5 o6 o9 o10 o13)
end LK
