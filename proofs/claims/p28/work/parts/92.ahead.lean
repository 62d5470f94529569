-- THE LAW's method isAhead: what is told ahead is what the deletion does, and undo brings all back
/-- what holds between the law's calls -/
def lI (mi : mm_M) (h : mm_H) (Bs : Nat → Int → Int) (n : Int) : Prop := cRel mi h Bs n ∧ mi 0 3 = 1 ∧ lG (Bs 0) ∧ lG (Bs 5)
section LA
variable {X : Nat × (Nat → Int)} {mi : mm_M} {h : mm_H} {Q : ml_A → mm_S → Prop} {Bs : Nat → Int → Int} {n : Int}
theorem lI.fd {m : mm_M} (hI : lI mi h Bs n) (hF : cFD mi m) : lI m h Bs n := ⟨hI.1.co (fun x hx => hF x (by omega)), by rw [hF 0 (by omega)]; exact hI.2.1, hI.2.2⟩
theorem lI.fc {m : mm_M} (hI : lI mi h Bs n) (hF : cFC mi m) : lI m h Bs n := ⟨hI.1.co (fun x hx => hF x (by omega)), by rw [hF 0 (by omega)]; exact hI.2.1, hI.2.2⟩
theorem lI.S (hI : lI mi h Bs n) : cS mi 1 (Bs 0) := hI.1.2.1.1
theorem lg_cmp_0 (x : Int64) : (lg_cmp x x).toInt = 0 := by
  have : lg_cmp x x = 0 := by simp [lg_cmp]
  rw [this]
  rfl
theorem kDele_no {B : Int → Int} {t k : Int} (hr : ¬ kIsRow B t k) : kDele B t k = (-2, B) := if_neg hr
theorem kDele_bad {B : Int → Int} {t k : Int} {e : Nat} (hr : kIsRow B t k) (hw : kWhich B (100 * t + k) = some e) : kDele B t k = (-8, B) := by
  unfold kDele
  rw [if_pos hr, hw]
theorem kDele_ok {B : Int → Int} {t k : Int} (hr : kIsRow B t k) (hw : kWhich B (100 * t + k) = none) : kDele B t k = (((kOut B (100 * t + k)).length : Int), kDel B (100 * t + k)) := by
  unfold kDele
  rw [if_pos hr, hw]
/-- how many are gathered -/
noncomputable def lMany (B : Int → Int) (t k : Int) : Nat := @ite _ (kIsRow B t k) (Classical.propDecidable _) (kOut B (100 * t + k)).length 0
def lCas (B : Int → Int) (n : Nat) : Int := cnt n (fun r => decide (kOf B r 3 = 2))
def lRes (B : Int → Int) (n : Nat) : Int := cnt n (fun r => decide (kOf B r 3 ≠ 2))
abbrev zF (t k why would many alone res rows changed got : Int) (l13 : Option mm_V) : mm_L := [some (.inr (some 0)), some (.inl t), some (.inl k), none, none, some (.inl why), some (.inl would), some (.inl many), some (.inl alone), some (.inl res), some (.inl rows), some (.inl changed), some (.inl got), l13]
set_option maxHeartbeats 8000000 in
theorem spAhead (hI : lI mi h Bs n) {t k : Int} (hq : ∀ m2 h2 Bs2 n2, lI m2 h2 Bs2 n2 → Bs2 0 = Bs 0 → Bs2 5 = Bs 5 → Q (.inl (.inl 1)) (mm_ms0 m2 h2)) : lwp X 1 ((0, mm_entry mi_L_isAhead [.inr (some 0), .inl t, .inl k], [], mm_ms0 mi h, 0, 0), [], []) Q := by
  have hB := hI.S.1
  have hFk := hI.1.2.1.2
  have w0 := hB.1.1
  have w1 := hB.1.2.1
  -- numbers of the row
  have hx : kIsRow (Bs 0) t k → 0 ≤ 100 * t + k ∧ 100 * t + k < 600 := fun hr => by
    have := hr.1
    have := hr.2.1
    omega
  have hm120 : lMany (Bs 0) t k ≤ 120 := by
    unfold lMany
    by_cases q : kIsRow (Bs 0) t k
    · rw [if_pos q]; exact (kOut_in hB.1 hB.ok.2.2 (hx q) q.2.2).1
    · rw [if_neg q]; omega
  have gath : ∀ i : Nat, (i < lMany (Bs 0) t k → 0 ≤ kGiveG (Bs 0) t k i) ∧ (¬ i < lMany (Bs 0) t k → kGiveG (Bs 0) t k i < 0) := by
    intro i
    unfold lMany kGiveG
    by_cases q : kIsRow (Bs 0) t k
    · rw [if_pos q, if_neg (fun z => z q), if_neg (by omega)]
      have ho := (kOut_in hB.1 hB.ok.2.2 (hx q) q.2.2).2
      generalize kOut (Bs 0) (100 * t + k) = l at ho ⊢
      refine ⟨fun z => ?_, fun z => ?_⟩
      · rw [if_pos (by omega)]
        exact (ho _ (gAt_mem (l := l) (n := i) z).1).1.1
      · rw [if_neg (by omega)]
        decide
    · rw [if_neg q, if_pos q]
      exact ⟨fun z => absurd z (Nat.not_lt_zero _), fun _ => by decide⟩
  -- the two ends
  have tl : ∀ (m2 : mm_M) (h2 : mm_H) (Bs2 : Nat → Int → Int) (n2 : Int), lI m2 h2 Bs2 n2 → Bs2 0 = Bs 0 → ∀ (P : Int64 → mm_S → Prop), P (lTold (Bs 0)) (mm_ms0 m2 h2) → lwp X 0 ((0, mm_entry mi_L_told [.inr (some 0)], [], mm_ms0 m2 h2, 0, 0), [], []) (fun v S1 => ∃ z, v = .inr z ∧ P z S1) := by
    intro m2 h2 Bs2 n2 hI2 e P hP
    refine spTold hI2.S ⟨_, rfl, ?_⟩
    rw [e]
    exact hP
  have same : ∀ (m2 : mm_M), lI m2 h Bs n → ∀ (why would many alone res rows changed got l13 : Int), lwp X 1 ((200, zF t k why would many alone res rows changed got (some (.inl l13)), [], mm_ms0 m2 h, 0, 0), [], [(3, lTold (Bs 0))]) Q := by
    intro m2 hI2 why would many alone res rows changed got l13
    refine zah_200 (tl m2 h Bs n hI2 rfl _ ?_)
    refine zah_204 (fun _ => ?_) (fun z => absurd (lg_cmp_0 _) z)
    exact zah_209 (zah_214 (Or.inr rfl) (hq m2 h Bs n hI2 rfl rfl))
  -- behind the deletion
  have del : ∀ (m : mm_M), lI m h Bs n → lwp X 1 ((121, [some (.inr (some 0)), some (.inl t), some (.inl k), none, none, some (.inl (kGiveWhy (Bs 0) t k)), some (.inl (kGiveWc (Bs 0) t k)), some (.inl (lMany (Bs 0) t k)), some (.inl (lCas (Bs 0) (Bs 0 1).toNat)), some (.inl (lRes (Bs 0) (Bs 0 1).toNat)), some (.inl (kAll (Bs 0))), none, none, none], [.inl (Bs 0 4)], mm_ms0 m h, 0, 0), [], [(3, lTold (Bs 0))]) Q := by
    intro m hIm
    refine zah_121 ?_
    refine sp65 hIm.1 ?_
    by_cases hr : kIsRow (Bs 0) t k
    · cases hw : kWhich (Bs 0) (100 * t + k) with
      | some e =>
        obtain ⟨e1, e2, e3, e4, e5⟩ := kWhich_some hB (hx hr) hr.2.2 hw
        rw [kDele_bad hr hw]
        refine ⟨fun _ m2 hR2 _ h03 => ?_, fun z => absurd z (by dsimp only; decide)⟩
        have hI2 : lI m2 h Bs n := ⟨hR2, by rw [h03]; exact hIm.2.1, hI.2.2⟩
        have hwhy : kGiveWhy (Bs 0) t k = gWhy (Bs 0) (gMk (Bs 0) (100 * t + k)) e := by
          unfold kGiveWhy
          rw [if_neg (fun z => z hr), hw]
        have hwc : kGiveWc (Bs 0) t k = -8 := by
          unfold kGiveWc
          rw [if_neg (fun z => z hr), hw]
        have hbl : kGiveBl (Bs 0) t k = gCh (Bs 0) e := by
          unfold kGiveBl
          rw [if_neg (fun z => z hr), hw]
        have hres : 0 < lRes (Bs 0) (Bs 0 1).toNat := by
          have h1 : cnt (e / 100 + 1) (fun r => decide (kOf (Bs 0) r 3 ≠ 2)) ≤ lRes (Bs 0) (Bs 0 1).toNat := cnt_mono _ (by omega)
          rw [cnt_succ, if_pos (decide_eq_true e4)] at h1
          have := cnt_nn (e / 100) (fun r => decide (kOf (Bs 0) r 3 ≠ 2))
          omega
        dsimp only
        rw [mm_psh_i]
        refine zah_129 (fun _ => ?_) (fun z => absurd (by decide) z)
        refine zah_136 (fun z => absurd z (by decide)) (fun _ => ?_)
        refine zah_159 ?_
        refine zah_160 (fun _ => ?_) (fun z => absurd hwc z)
        refine zah_169 (fun _ => ?_) (fun z => absurd rfl z)
        refine zah_174 (fun _ => ?_) (fun z => absurd rfl z)
        refine zah_181 (fun _ => ?_) (fun z => absurd (by rw [hwhy]; exact e2) z)
        refine zah_186 (fun _ => ?_) (fun z => absurd hres z)
        refine zah_191 ?_
        refine sp81 hI2.S (fun m3 hF3 => ?_)
        rw [mm_psh_i]
        refine zah_197 (fun z => absurd z (by rw [hbl]; omega)) (fun _ => ?_)
        exact same m3 (hI2.fd hF3) _ _ _ _ _ _ _ _ _
      | none =>
        have hlen := (kOut_in hB.1 hB.ok.2.2 (hx hr) hr.2.2).1
        have hkeep := kDele_keep hB hFk hr hw
        have hG2 := lG_del hB hFk hI.2.2.1 (hx hr) hr.2.2 hw
        have hAll := kAll_del hB (hx hr) hr.2.2
        obtain ⟨a1, a2, a3, a4, a5, a6⟩ := kDel_at hB (hx hr) hr.2.2
        have hself := kOut_self hB (hx hr) hr.2.2
        have hmany : lMany (Bs 0) t k = (kOut (Bs 0) (100 * t + k)).length := by
          unfold lMany
          rw [if_pos hr]
        have hwhy : kGiveWhy (Bs 0) t k = 0 := by
          unfold kGiveWhy
          rw [if_neg (fun z => z hr), hw]
        have hwc : kGiveWc (Bs 0) t k = kChgN (Bs 0) (gMk (Bs 0) (100 * t + k)) (gR (Bs 0)) := by
          unfold kGiveWc
          rw [if_neg (fun z => z hr), hw, kChgN_cnt hB _ (Nat.le_refl _)]
        have halone : ¬ 0 < lCas (Bs 0) (Bs 0 1).toNat → (kOut (Bs 0) (100 * t + k)).length = 1 := by
          intro z
          rw [kOut_alone (fun r hr2 y => ?_)]
          · rfl
          · have h1 : cnt (r + 1) (fun r => decide (kOf (Bs 0) r 3 = 2)) ≤ lCas (Bs 0) (Bs 0 1).toNat := cnt_mono _ (by omega)
            rw [cnt_succ, if_pos (decide_eq_true y)] at h1
            have := cnt_nn r (fun r => decide (kOf (Bs 0) r 3 = 2))
            omega
        have hgone : ¬ kIsRow (kDel (Bs 0) (100 * t + k)) t k := fun z => by
          have := z.2.2
          rw [a6 _ (hx hr).1, if_pos hself] at this
          omega
        rw [kDele_ok hr hw]
        have hlen0 : kAll (kDel (Bs 0) (100 * t + k)) = kAll (Bs 0) - ((kOut (Bs 0) (100 * t + k)).length : Int) := by omega
        have hn600 := kAll_nn hkeep.1.1
        have hn601 := kAll_nn hB.1
        generalize hD : kDel (Bs 0) (100 * t + k) = D at hkeep hG2 a3 hgone hlen0 hn600
        generalize hL : (kOut (Bs 0) (100 * t + k)).length = len at hmany halone hlen hlen0
        refine ⟨fun z => absurd z (by dsimp only; omega), fun _ m2 h2 hR2 _ h03 => ?_⟩
        have hI2 : lI m2 h2 (aTk Bs n D) (kAccN n) := ⟨hR2, by rw [h03]; exact hIm.2.1, hG2, hI.2.2.2⟩
        have eD : aTk Bs n D 0 = D := rfl
        have hn4 := hI.1.1.2.1
        have hk1 : 1 ≤ kAccN n ∧ kAccN n ≤ 4 := by
          unfold kAccN
          split <;> omega
        dsimp only
        rw [mm_psh_i]
        refine zah_129 (fun z => absurd z (by omega)) (fun _ => ?_)
        refine zah_215 (fun _ => ?_) (fun z => absurd hwhy z)
        refine zah_220 (fun _ => ?_) (fun z => absurd (by rw [hmany]) z)
        have go : lwp X 1 ((238, zF t k (kGiveWhy (Bs 0) t k) (kGiveWc (Bs 0) t k) (lMany (Bs 0) t k) (lCas (Bs 0) (Bs 0 1).toNat) (lRes (Bs 0) (Bs 0 1).toNat) (kAll (Bs 0)) (Bs 0 4) len none, [], mm_ms0 m2 h2, 0, 0), [], [(3, lTold (Bs 0))]) Q := by
          refine zah_238 ?_
          refine sp78 hI2.S ?_
          rw [kTotC_2, eD, mm_psh_i]
          refine zah_243 (fun _ => ?_) (fun z => absurd (by rw [hmany, mm_wi (by omega) (by omega)]; exact hlen0) z)
          refine zah_251 ?_
          refine sp78 hI2.S ?_
          rw [kTotC_6, eD, mm_psh_i]
          refine zah_257 (fun _ => ?_) (fun z => absurd (by rw [hwc]; exact a3) z)
          refine zah_265 ?_
          refine sp159 hI2.S hI2.1.2.1.2 hI2.2.2.1 (fun m3 hF3 => ?_)
          have hI3 := hI2.fd hF3
          rw [mm_psh_i]
          refine zah_269 (fun z => absurd z (by decide)) (fun _ => ?_)
          refine zah_272 ?_
          refine sp80 hI3.S (fun m4 hF4 => ?_)
          have hI4 := hI3.fd hF4
          have hun : kGiveWhy (aTk Bs n D 0) t k = -2 := by
            unfold kGiveWhy
            rw [eD, if_pos hgone]
          rw [mm_psh_i]
          refine zah_278 (fun _ => ?_) (fun z => absurd hun z)
          refine zah_283 ?_
          refine zah_288 (fun z => absurd z (by decide)) (fun _ => ?_)
          refine zah_295 ?_
          refine sp69 hI4.1 (fun z => absurd z (by omega)) (fun _ m5 hR5 _ h035 => ?_)
          have e0 : (if (0 : Nat) = 0 then aTk Bs n D (kAccN n).toNat else aTk Bs n D 0) = Bs 0 := by
            rw [if_pos rfl]
            unfold aTk aPush
            have hc : (((kAccN n).toNat : Nat) : Int) = kAccN n := by omega
            have hne5 : ¬ (kAccN n).toNat = 5 := by omega
            have hne0 : ¬ (kAccN n).toNat = 0 := by omega
            rw [if_neg hne0, if_neg hne5, if_pos hc]
          have hI5 : lI m5 h2 (fun i => if i = 0 then aTk Bs n D (kAccN n).toNat else aTk Bs n D i) (kAccN n - 1) := by
            refine ⟨hR5, by rw [h035]; exact hI4.2.1, ?_, ?_⟩
            · dsimp only
              rw [e0]
              exact hI.2.2.1
            · dsimp only
              rw [if_neg (by decide)]
              exact hI.2.2.2
          rw [mm_psh_i]
          refine zah_299 (fun z => absurd z (by omega)) (fun _ => ?_)
          refine zah_302 (tl m5 h2 _ _ hI5 e0 _ ?_)
          refine zah_306 (fun _ => ?_) (fun z => absurd (lg_cmp_0 _) z)
          refine zah_311 ?_
          refine sp160 hI5.S hI5.1.2.1.2 (show kIsRow (if (0 : Nat) = 0 then aTk Bs n D (kAccN n).toNat else aTk Bs n D 0) t k by rw [e0]; exact hr) (fun m6 hF6 => ?_)
          rw [mm_psh_i]
          refine zah_317 (fun z => absurd z (by decide)) (fun _ => ?_)
          exact zah_320 (zah_325 (Or.inr rfl) (hq m6 h2 _ _ (hI5.fc hF6) e0 rfl))
        refine zah_227 (fun _ => go) (fun z => ?_)
        exact zah_232 (fun _ => go) (fun y => absurd (by rw [hmany, halone z]; rfl) y)
    · rw [kDele_no hr]
      refine ⟨fun _ m2 hR2 _ h03 => ?_, fun z => absurd z (by dsimp only; decide)⟩
      have hI2 : lI m2 h Bs n := ⟨hR2, by rw [h03]; exact hIm.2.1, hI.2.2⟩
      have hwhy : kGiveWhy (Bs 0) t k = -2 := by
        unfold kGiveWhy
        rw [if_pos hr]
      have hwc : kGiveWc (Bs 0) t k = -2 := by
        unfold kGiveWc
        rw [if_pos hr]
      have hmany : lMany (Bs 0) t k = 0 := by
        unfold lMany
        rw [if_neg hr]
      dsimp only
      rw [mm_psh_i]
      refine zah_129 (fun _ => ?_) (fun z => absurd (by decide) z)
      refine zah_136 (fun _ => ?_) (fun z => absurd rfl z)
      refine zah_143 (fun _ => ?_) (fun z => absurd hwhy z)
      refine zah_150 (fun _ => ?_) (fun z => absurd (by rw [hmany]; rfl) z)
      refine zah_155 ?_
      refine zah_160 (fun _ => ?_) (fun z => absurd hwc z)
      refine zah_169 (fun z => absurd z (by decide)) (fun _ => ?_)
      exact same m2 hI2 _ _ _ _ _ _ _ _ _
  -- the references
  have refs : ∀ (m : mm_M), lI m h Bs n → lwp X 1 ((50, [some (.inr (some 0)), some (.inl t), some (.inl k), none, none, some (.inl (kGiveWhy (Bs 0) t k)), some (.inl (kGiveWc (Bs 0) t k)), some (.inl (lMany (Bs 0) t k)), some (.inl 0), some (.inl 0), some (.inl 0), none, none, none], [], mm_ms0 m h, 0, 0), [], [(3, lTold (Bs 0))]) Q := by
    intro m hIm
    refine mm_for (fun i => lwp X 1 ((50, [some (.inr (some 0)), some (.inl t), some (.inl k), none, none, some (.inl (kGiveWhy (Bs 0) t k)), some (.inl (kGiveWc (Bs 0) t k)), some (.inl (lMany (Bs 0) t k)), some (.inl (lCas (Bs 0) i)), some (.inl (lRes (Bs 0) i)), some (.inl (i : Int)), none, none, none], [], mm_ms0 m h, 0, 0), [], [(3, lTold (Bs 0))]) Q) (Bs 0 1).toNat ?_ ?_ 0 (Nat.zero_le _)
    · refine zah_50 ?_
      refine sp78 hIm.S ?_
      rw [kTotC_1, mm_psh_i]
      refine zah_57 (fun z => absurd z (by omega)) (fun _ => ?_)
      refine zah_108 ?_
      refine sp78 hIm.S ?_
      rw [kTotC_2, mm_psh_i]
      refine zah_113 ?_
      refine sp78 hIm.S ?_
      rw [kTotC_6, mm_psh_i]
      exact del m hIm
    · intro i hi ih
      have c1 := cnt_nn i (fun r => decide (kOf (Bs 0) r 3 = 2))
      have c2 := cnt_le i (fun r => decide (kOf (Bs 0) r 3 = 2))
      have c3 := cnt_nn i (fun r => decide (kOf (Bs 0) r 3 ≠ 2))
      have c4 := cnt_le i (fun r => decide (kOf (Bs 0) r 3 ≠ 2))
      have s1 : lCas (Bs 0) (i + 1) = lCas (Bs 0) i + (if kOf (Bs 0) i 3 = 2 then 1 else 0) := by
        unfold lCas
        rw [cnt_succ]
        congr 1
        by_cases q : kOf (Bs 0) i 3 = 2
        · rw [if_pos (decide_eq_true q), if_pos q]
        · rw [if_neg (by simpa using q), if_neg q]
      have s2 : lRes (Bs 0) (i + 1) = lRes (Bs 0) i + (if kOf (Bs 0) i 3 = 2 then 0 else 1) := by
        unfold lRes
        rw [cnt_succ]
        congr 1
        by_cases q : kOf (Bs 0) i 3 = 2
        · rw [if_neg (by simpa using q), if_pos q]
        · rw [if_pos (decide_eq_true q), if_neg q]
      rw [s1, s2] at ih
      have c1 : 0 ≤ lCas (Bs 0) i := c1
      have c2 : lCas (Bs 0) i ≤ i := c2
      have c3 : 0 ≤ lRes (Bs 0) i := c3
      have c4 : lRes (Bs 0) i ≤ i := c4
      refine zah_50 ?_
      refine sp78 hIm.S ?_
      rw [kTotC_1, mm_psh_i]
      refine zah_57 (fun _ => ?_) (fun z => absurd z (by omega))
      refine zah_60 ?_
      refine sp76 hIm.S ?_
      rw [kGiveF_in (by omega) (by decide), mm_psh_i]
      by_cases q : kOf (Bs 0) i 3 = 2
      · rw [if_pos q, if_pos q] at ih
        refine zah_69 (fun _ => ?_) (fun z => absurd q z)
        refine zah_73 ?_
        refine zah_78 ?_
        refine sp76 hIm.S ?_
        rw [kGiveF_in (by omega) (by decide), mm_psh_i]
        refine zah_90 (fun _ => ?_) (fun z => absurd q z)
        refine zah_94 ?_
        refine zah_99 ?_
        rw [mm_wi (z := lCas (Bs 0) i + 1) (by omega) (by omega), mm_wi (z := lRes (Bs 0) i + 0) (by omega) (by omega), mm_wi (z := (i : Int) + 1) (by omega) (by omega)]
        exact ih
      · rw [if_neg q, if_neg q] at ih
        refine zah_69 (fun z => absurd z q) (fun _ => ?_)
        refine zah_77 ?_
        refine zah_78 ?_
        refine sp76 hIm.S ?_
        rw [kGiveF_in (by omega) (by decide), mm_psh_i]
        refine zah_90 (fun z => absurd z q) (fun _ => ?_)
        refine zah_98 ?_
        refine zah_99 ?_
        rw [mm_wi (z := lCas (Bs 0) i + 0) (by omega) (by omega), mm_wi (z := lRes (Bs 0) i + 1) (by omega) (by omega), mm_wi (z := (i : Int) + 1) (by omega) (by omega)]
        exact ih
  show lwp X 1 ((0, [some (.inr (some 0)), some (.inl t), some (.inl k), none, none, none, none, none, none, none, none, none, none, none], [], mm_ms0 mi h, 0, 0), [], []) Q
  refine zah_0 (tl mi h Bs n hI rfl _ ?_)
  refine zah_4 ?_
  refine sp80 hI.S (fun m1 hF1 => ?_)
  have hI1 := hI.fd hF1
  rw [mm_psh_i]
  refine zah_11 ?_
  refine sp82 hI1.S (fun m2 hF2 => ?_)
  have hI2 := hI1.fd hF2
  rw [mm_psh_i]
  refine zah_19 ?_
  refine mm_for (fun i => ∀ m, lI m h Bs n → lwp X 1 ((30, [some (.inr (some 0)), some (.inl t), some (.inl k), none, none, some (.inl (kGiveWhy (Bs 0) t k)), some (.inl (kGiveWc (Bs 0) t k)), some (.inl (i : Int)), some (.inl 0), some (.inl 0), none, none, none, none], [], mm_ms0 m h, 0, 0), [], [(3, lTold (Bs 0))]) Q) (lMany (Bs 0) t k) ?_ ?_ 0 (Nat.zero_le _) m2 hI2
  · intro m hIm
    refine zah_30 ?_
    refine sp79 hIm.S (fun m3 hF3 => ?_)
    rw [mm_psh_i]
    refine zah_38 (fun _ => ?_) (fun z => absurd ((gath _).2 (Nat.lt_irrefl _)) z)
    exact zah_47 (refs m3 (hIm.fd hF3))
  · intro i hi ih m hIm
    refine zah_30 ?_
    refine sp79 hIm.S (fun m3 hF3 => ?_)
    rw [mm_psh_i]
    refine zah_38 (fun z => absurd ((gath i).1 hi) (by omega)) (fun _ => ?_)
    refine zah_41 ?_
    rw [mm_wi (by omega) (by omega)]
    exact ih m3 (hIm.fd hF3)
end LA
