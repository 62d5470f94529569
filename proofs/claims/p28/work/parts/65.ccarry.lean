-- THE CLASS carries a deletion out
def kRm (B : Int → Int) (l : List Int) : Nat → Int → Int
  | 0 => B
  | n + 1 => bUp (kRm B l n) (198 + gAt l n) (-1)
theorem kRm_at {B : Int → Int} {l : List Int} (hin : ∀ y ∈ l, 0 ≤ y ∧ y < 600) : ∀ n, n ≤ l.length → (∀ z, z < 198 → kRm B l n z = B z) ∧ ∀ y, kCe (kRm B l n) y = if y ∈ l.take n then -1 else kCe B y := by
  intro n
  induction n with
  | zero =>
    intro _
    refine ⟨fun z _ => rfl, fun y => ?_⟩
    rw [List.take_zero, if_neg List.not_mem_nil]
    rfl
  | succ n ih =>
    intro hn
    obtain ⟨i1, i3⟩ := ih (by omega)
    obtain ⟨g1, g2⟩ := gAt_mem (show n < l.length by omega)
    have hy := hin _ g1
    refine ⟨fun z hz => ?_, fun y => ?_⟩
    · show bUp (kRm B l n) (198 + gAt l n) (-1) z = _
      rw [bUp_ne (by omega)]
      exact i1 z hz
    · show kCe (bUp (kRm B l n) (198 + gAt l n) (-1)) y = _
      rw [kCe_up, List.take_succ, g2, i3 y]
      by_cases q : y = gAt l n
      · rw [if_pos q, if_pos (List.mem_append_right _ (by rw [q]; exact List.mem_singleton.mpr rfl))]
      · rw [if_neg q]
        by_cases z : y ∈ List.take n l
        · rw [if_pos z, if_pos (List.mem_append_left _ z)]
        · rw [if_neg z, if_neg]
          intro w
          rcases List.mem_append.mp w with w | w
          · exact z w
          · exact q (by simpa using w)
theorem gAt_new {l : List Int} (hnd : l.Nodup) {n : Nat} (hn : n < l.length) : gAt l n ∉ l.take n := by
  have h1 := hnd.sublist (List.take_sublist (n + 1) l)
  rw [List.take_succ, (gAt_mem hn).2] at h1
  intro z
  exact (List.nodup_append.mp h1).2.2 _ z _ (List.mem_singleton.mpr rfl) rfl
section CCO
variable {X : Nat × (Nat → Int)} {mi : mm_M} {h : mm_H} {Q : Option mm_V → mm_S → Prop} {B : Int → Int}
theorem sp15 (hS : cS mi 1 B) {x : Int} (hx : 0 ≤ x ∧ x < 600) (hc : 0 ≤ kCe B x) (hn : kWhich B x = none) (hP : cPlan mi B x) (h4 : mi 61 4 = kChgN B (gMk B x) (gR B)) (hq : ∀ m2, cS m2 1 (kDel B x) → cF1 mi m2 → Q (some (.inl ((kOut B x).length : Int))) (mm_ms0 m2 h)) : mcl X 15 [.inr (some 61), .inr (some 1)] (mm_ms0 mi h) Q := by
  have hW := hS.1.1
  have w1 := hW.2.1
  have hg := gR_i hS
  obtain ⟨hmk, hlen, hlist⟩ := hP
  obtain ⟨o1, o2⟩ := kOut_in hW hS.1.ok.2.2 hx hc
  have hnd := kOut_nodup hW hx hc
  have hru : ∀ e, e < gR B → gHitU B (mA mi 63) e → kOf B ((e / 100 : Nat) : Int) 3 = 3 ∨ kOf B ((e / 100 : Nat) : Int) 3 = 4 := fun e he q => hit_rule hS.1 hx hc hn e he (by rw [gHitU_co hW hmk he] at q; exact q)
  have hch : kChg B (mA mi 63) (gR B) = kChg B (gMk B x) (gR B) := (kChg_co hW hmk _ (Nat.le_refl _)).1
  have hv := (kChg_val (mk := gMk B x) hS.1 _ (Nat.le_refl _)).1
  have hsm := (kChg_wr (mk := gMk B x) hW _ (Nat.le_refl _)).2
  rw [c15, b15_0]
  refine mm_for (fun n => ∀ m, cF7 mi m → cS m 1 (kChg B (mA mi 63) (cPl mi B (20 * n))) → mwp X 15 2 [some (.inr (some 61)), some (.inr (some 1)), some (.inl (n : Int))] [] (mm_ms0 m h) Q) (B 1).toNat ?_ ?_ 0 (Nat.zero_le _) mi (fun _ _ => rfl) (by rw [show cPl mi B (20 * 0) = 0 from rfl]; exact hS)
  · intro m hF hC
    have ce : cPl mi B (20 * (B 1).toNat) = gR B := by
      unfold cPl
      rw [show 20 * (B 1).toNat % 20 = 0 by omega, show cAt mi 1 (cTr B (20 * (B 1).toNat / 20)) 0 = 0 from rfl]
      omega
    rw [ce, hch] at hC
    have e1 : m 1 1 = B 1 := by rw [hC.2.1.2.1, hsm 1 (by decide)]
    rw [b15_2, e1, if_neg (by omega), b15_22]
    refine mm_for (fun n => ∀ m, cF1 mi m → cS m 1 (kRm (kChg B (gMk B x) (gR B)) (kOut B x) n) → mwp X 15 24 [some (.inr (some 61)), some (.inr (some 1)), some (.inl (n : Int))] [] (mm_ms0 m h) Q) (kOut B x).length ?_ ?_ 0 (Nat.zero_le _) m (fun a ha => hF a (by omega)) hC
    · intro m2 hF2 hC2
      obtain ⟨r1, r2⟩ := kRm_at (B := kChg B (gMk B x) (gR B)) (l := kOut B x) (fun y hy => (o2 y hy).1) _ (Nat.le_refl _)
      have hl2 : m2 61 1 = (kOut B x).length := by rw [hF2 61 (by omega)]; exact hlen
      have h42 : m2 61 4 = kChgN B (gMk B x) (gR B) := by rw [hF2 61 (by omega)]; exact h4
      rw [b15_24, hl2, if_neg (by omega), b15_48, hl2, mm_andT (by omega), b15_65]
      have c1 : ∀ a, a ≠ 8 → mm_cpy m2 62 (Int.toNat 0) 8 (Int.toNat 0) ((kOut B x).length : Int).toNat a = m2 a := by
        intro a ha
        funext k
        unfold mm_cpy
        rw [if_neg ha]
      have c8 : ∀ k, k < (kOut B x).length → mm_cpy m2 62 (Int.toNat 0) 8 (Int.toNat 0) ((kOut B x).length : Int).toNat 8 k = gAt (kOut B x) k := by
        intro k hk
        unfold mm_cpy
        rw [if_pos rfl, if_pos (by omega)]
        have : m2 62 k = gAt (kOut B x) k := by rw [hF2 62 (by omega)]; exact hlist k hk
        rw [← this]
        exact congrArg (m2 62) (by omega)
      generalize mm_cpy m2 62 (Int.toNat 0) 8 (Int.toNat 0) ((kOut B x).length : Int).toNat = m3 at c1 c8 ⊢
      obtain ⟨a1, a2, a3, a4, a5, a6⟩ := kDel_at hS.1 hx hc
      obtain ⟨hI2, ⟨d0, d1, d2, d3, d4, d5⟩, ⟨f1, f2⟩, ⟨g1, g2⟩, ht⟩ := hC2
      have rs : ∀ z, z < 198 → kRm (kChg B (gMk B x) (gR B)) (kOut B x) (kOut B x).length z = B z := fun z hz => (r1 z hz).trans (hsm z hz)
      have rk : ∀ r w : Int, 6 + 6 * r + w < 198 → kOf (kRm (kChg B (gMk B x) (gR B)) (kOut B x) (kOut B x).length) r w = kOf B r w := fun r w hz => by
        unfold kOf
        exact rs (6 + 6 * r + w) hz
      generalize kRm (kChg B (gMk B x) (gR B)) (kOut B x) (kOut B x).length = Br at r1 r2 hI2 d0 d1 d2 d3 d4 d5 f1 f2 g1 g2 ht rs rk
      rw [rs 0 (by decide)] at d0
      rw [rs 1 (by decide)] at d1
      rw [rs 2 (by decide)] at d3
      rw [rs 3 (by decide)] at d4
      rw [rs 4 (by decide)] at d5
      rw [c1 61 (by decide), c1 1 (by decide), hl2, h42, d4, d5]
      have of : ∀ r w : Int, 0 ≤ r → r < B 1 → 0 ≤ w → w < 6 → kOf (kDel B x) r w = kOf B r w := fun r w b1 b2 b3 b4 => by
        unfold kOf
        exact a1 (6 + 6 * r + w) (by omega) (by omega) (by omega) (by omega)
      have k1 : kDel B x 1 = B 1 := a1 1 (by decide) (by decide) (by decide) (by decide)
      refine hq _ ⟨bInv_del hS.1 hx hc, ⟨?_, ?_, ?_, ?_, ?_, ?_⟩, ⟨fun i hi => ?_, fun i hi => ?_⟩, ⟨fun t htt => ?_, fun r hr => ?_⟩, fun t htt => ?_⟩ (fun a ha => ?_)
      · rw [mm_up_at2 (by decide), mm_up_at2 (by decide), mm_up_at2 (by decide), c1 1 (by decide), a1 0 (by decide) (by decide) (by decide) (by decide)]; exact d0
      · rw [mm_up_at2 (by decide), mm_up_at2 (by decide), mm_up_at2 (by decide), c1 1 (by decide), k1]; exact d1
      · rw [mm_up_at2 (by decide), mm_up_at2 (by decide), mm_up_at, a4]
      · rw [mm_up_at2 (by decide), mm_up_at2 (by decide), mm_up_at2 (by decide), c1 1 (by decide), a1 2 (by decide) (by decide) (by decide) (by decide)]; exact d3
      · rw [mm_up_at2 (by decide), mm_up_at, a2]
      · rw [mm_up_at, a3]
      · rw [k1] at hi
        rw [mm_up_ne (by decide), mm_up_ne (by decide), mm_up_ne (by decide), c1 _ (by decide), a1 _ (by omega) (by omega) (by omega) (by omega), ← rs (6 + i) (by omega)]
        exact f1 i (by rw [rs 1 (by decide)]; exact hi)
      · rw [a4] at hi
        rw [mm_up_ne (by decide), mm_up_ne (by decide), mm_up_ne (by decide), a5 i (by omega)]
        exact c8 i (by omega)
      · rw [mm_up_ne (by decide), mm_up_ne (by decide), mm_up_ne (by decide), c1 _ (by decide), g1 t htt]
        unfold kCols
        rw [k1, rs 1 (by decide)]
        exact cnt_co fun e he => by rw [of e 0 (by omega) (by omega) (by omega) (by omega), rk e 0 (by omega)]
      · rw [k1] at hr
        rw [mm_up_ne (by decide), mm_up_ne (by decide), mm_up_ne (by decide), c1 _ (by decide), of r 0 (by omega) hr (by omega) (by omega), of r 2 (by omega) hr (by omega) (by omega)]
        have := g2 r (by rw [rs 1 (by decide)]; exact hr)
        rw [rk r 0 (by omega), rk r 2 (by omega)] at this
        exact this
      · refine (ht t htt).co ?_ (fun j hj => ?_) (fun j c hj hc => ?_) (fun k hk hk2 => ?_) ?_
        · show mm_up _ _ _ _ 2 t = m2 2 t
          rw [mm_up_ne (by decide), mm_up_ne (by decide), mm_up_ne (by decide), c1 _ (by decide)]
        · show mm_up _ _ _ _ 6 _ = m2 6 _
          rw [mm_up_ne (by decide), mm_up_ne (by decide), mm_up_ne (by decide), c1 _ (by decide)]
        · show mm_up _ _ _ _ 7 _ = m2 7 _
          rw [mm_up_ne (by decide), mm_up_ne (by decide), mm_up_ne (by decide), c1 _ (by decide)]
        · rw [a6 _ (by omega), r2 _, List.take_length]
        · rw [rs 0 (by decide), a1 0 (by decide) (by decide) (by decide) (by decide)]
          exact Int.le_refl _
      · rw [mm_up_ne (by omega), mm_up_ne (by omega), mm_up_ne (by omega), c1 _ (by omega)]
        exact hF2 a ha
    · intro n hn2 ih m2 hF2 hC2
      obtain ⟨r1, r2⟩ := kRm_at (B := kChg B (gMk B x) (gR B)) (l := kOut B x) (fun y hy => (o2 y hy).1) n (by omega)
      obtain ⟨y1, y2⟩ := gAt_mem hn2
      have hy := o2 _ y1
      have hl2 : m2 61 1 = (kOut B x).length := by rw [hF2 61 (by omega)]; exact hlen
      have e62 : m2 62 ((n : Int)).toNat = gAt (kOut B x) n := by
        rw [hF2 62 (by omega), Int.toNat_natCast]
        exact hlist n hn2
      rw [b15_24, hl2, if_pos (by omega), b15_32, mm_andT (by omega), e62, b15_39]
      refine sp57 hC2 hy.1 ?_ ?_
      · rw [r2, if_neg (gAt_new hnd hn2)]
        exact (hv _ hy.1.1 hy.1.2).mpr hy.2
      · intro m3 hC3 hF3
        rw [mm_psh_n, b15_42, mm_wi (z := (n : Int) + 1) (by omega) (by omega)]
        exact ih m3 (hF2.tr hF3) hC3
  · intro n hn2 ih m hF hC
    have ple : cPl mi B (20 * n) ≤ gR B := by
      have := ((cW_tb hS (r := 20 * n / 20) (by omega)).1.le (20 * n % 20)).1
      unfold cPl
      omega
    have e1 : m 1 1 = B 1 := by rw [hC.2.1.2.1, (kChg_wr (mk := mA mi 63) hW _ ple).2 1 (by decide)]
    rw [b15_2, e1, if_pos (by omega), b15_10]
    refine sp16 hS rfl hru (by omega) hF hC ?_
    intro m2 hF2 hC2
    rw [mm_psh_n, b15_16, mm_wi (z := (n : Int) + 1) (by omega) (by omega)]
    exact ih m2 hF2 hC2
end CCO
