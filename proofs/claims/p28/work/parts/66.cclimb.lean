-- THE CLASS climbs
def clP (B : Int → Int) (x y : Int) : Prop := ∃ e, e < gR B ∧ kEdge B e ∧ gCh B e = x ∧ gPar B e = y
def cFC (mi mi2 : mm_M) : Prop := ∀ a, ¬ (66 ≤ a ∧ a ≤ 68) → mi2 a = mi a
theorem cFC.tr {m1 m2 m3 : mm_M} (h1 : cFC m1 m2) (h2 : cFC m2 m3) : cFC m1 m3 := fun a ha => (h2 a ha).trans (h1 a ha)
theorem cFC.S {m1 m2 : mm_M} {B : Int → Int} (h : cFC m1 m2) (hS : cS m1 1 B) : cS m2 1 B := hS.co (fun i hi => h _ (by omega))
/-- what is reached -/
def cCl (mi : mm_M) (B : Int → Int) (L : List Int) : Prop := (∀ y, 0 ≤ y → y < 600 → (mi 67 y.toNat ≠ 0 ↔ y ∈ L)) ∧ mi 66 2 = L.length ∧ (∀ i, i < L.length → mi 68 i = gAt L i) ∧ L.Nodup ∧ ∀ y ∈ L, (0 ≤ y ∧ y < 600) ∧ 0 ≤ kCe B y
theorem gAt_app {l s : List Int} {n : Nat} (hn : n < l.length) : gAt (l ++ s) n = gAt l n := by
  unfold gAt
  rw [List.getD_eq_getElem?_getD, List.getD_eq_getElem?_getD, List.getElem?_append_left hn]
theorem gAt_app2 {l : List Int} {y : Int} : gAt (l ++ [y]) l.length = y := by
  unfold gAt
  rw [List.getD_eq_getElem?_getD, List.getElem?_append_right (Nat.le_refl _), Nat.sub_self]
  rfl
theorem cCl_len {mi : mm_M} {B : Int → Int} {L : List Int} (hE : (gEx B).length ≤ 120) (hnd : L.Nodup) (hin : ∀ y ∈ L, (0 ≤ y ∧ y < 600) ∧ 0 ≤ kCe B y) : L.length ≤ 120 := by
  have h1 := nodup_len (m := gEx B) hnd (fun x hx => by
    obtain ⟨⟨k1, k2⟩, k3⟩ := hin x hx
    refine List.mem_filter.mpr ⟨List.mem_map.mpr ⟨x.toNat, List.mem_range.mpr (by omega), by omega⟩, by simpa using k3⟩)
  omega
section CCL
variable {X : Nat × (Nat → Int)} {mi : mm_M} {h : mm_H} {Q : Option mm_V → mm_S → Prop} {B : Int → Int} {L : List Int}
theorem sp153c (hq : ∀ mi2, (∀ a, a ≠ 67 → mi2 a = mi a) → (∀ k, k < 600 → mi2 67 k = 0) → Q none (mm_ms0 mi2 h)) : mcl X 153 [.inr (some 67), .inl 0] (mm_ms0 mi h) Q := by
  rw [c153c, b153c_0]
  refine mm_for (fun n => ∀ mi2 : mm_M, (∀ a, a ≠ 67 → mi2 a = mi a) → (∀ k, k < n → mi2 67 k = 0) → mwp X 153 5 [some (.inr (some 67)), some (.inl 0), some (.inl (n : Int)), some (.inl 600)] [] (mm_ms0 mi2 h) Q) 600 ?_ ?_ 0 (Nat.zero_le _) mi (fun _ _ => rfl) (fun k hk => absurd hk (Nat.not_lt_zero _))
  · intro mi2 h1 h2
    rw [b153c_5, if_neg (by omega), b153c_20]
    exact hq mi2 h1 h2
  · intro n hn ih mi2 h1 h2
    rw [b153c_5, if_pos (by omega), b153c_10]
    refine ⟨by omega, ?_⟩
    rw [b153c_14, mm_wi (by omega) (by omega)]
    refine ih _ (fun a ha => by rw [mm_up_ne ha]; exact h1 a ha) (fun k hk => ?_)
    rw [mm_up_if]
    split
    · rfl
    · exact h2 k (by omega)
theorem sp3 (hE : (gEx B).length ≤ 120) (hR : cCl mi B L) {y : Int} (hy : 0 ≤ y ∧ y < 600) (hc : 0 ≤ kCe B y) (hq : ∀ m2, cFC mi m2 → cCl m2 B (if y ∈ L then L else L ++ [y]) → Q none (mm_ms0 m2 h)) : mcl X 3 [.inr (some 66), .inl y] (mm_ms0 mi h) Q := by
  have hR' := hR
  obtain ⟨r1, r2, r3, r4, r5⟩ := hR
  rw [c3, b3_0, mm_andT (by omega), b3_6]
  by_cases q : y ∈ L
  · rw [if_pos q] at hq
    rw [if_neg ((r1 y hy.1 hy.2).mpr q), b3_45]
    exact hq mi (fun _ _ => rfl) hR'
  · rw [if_neg q] at hq
    have z : mi 67 y.toNat = 0 := Classical.byContradiction (fun z => q ((r1 y hy.1 hy.2).mp z))
    have hnd : (L ++ [y]).Nodup := by
      rw [List.nodup_append]
      exact ⟨r4, List.nodup_cons.mpr ⟨List.not_mem_nil, List.nodup_nil⟩, fun a ha b hb => by rw [List.mem_singleton] at hb; rw [hb]; exact fun e => q (e ▸ ha)⟩
    have hin : ∀ w ∈ L ++ [y], (0 ≤ w ∧ w < 600) ∧ 0 ≤ kCe B w := by
      intro w hw
      rcases List.mem_append.mp hw with hw | hw
      · exact r5 w hw
      · rw [List.mem_singleton.mp hw]; exact ⟨hy, hc⟩
    have hl := cCl_len (mi := mi) hE hnd hin
    rw [List.length_append] at hl
    simp only [List.length_cons, List.length_nil] at hl
    rw [if_pos z, b3_9, r2, if_pos (by omega), b3_18, mm_andT (by omega), b3_25, mm_up_ne (a := 67) (b := 66) (by decide), r2, mm_andT (by omega), b3_35, mm_up_ne (a := 68) (b := 66) (by decide), mm_up_ne (a := 67) (b := 66) (by decide), r2, mm_wi (z := (L.length : Int) + 1) (by omega) (by omega), b3_45, Int.toNat_natCast]
    refine hq _ (fun a ha => by rw [mm_up_ne (by omega), mm_up_ne (by omega), mm_up_ne (by omega)]) ⟨fun w h1 h2 => ?_, ?_, fun i hi => ?_, hnd, hin⟩
    · rw [mm_up_ne (by decide), mm_up_ne (by decide), mm_up_if]
      by_cases e : w = y
      · rw [if_pos (by rw [e]), e]
        exact ⟨fun _ => List.mem_append_right _ (List.mem_singleton.mpr rfl), fun _ => by decide⟩
      · rw [if_neg (by omega), r1 w h1 h2]
        exact ⟨fun w2 => List.mem_append_left _ w2, fun w2 => (List.mem_append.mp w2).resolve_right (fun w3 => e (List.mem_singleton.mp w3))⟩
    · rw [mm_up_at]
      simp
    · rw [mm_up_ne (by decide), mm_up_if, mm_up_ne (by decide)]
      rw [List.length_append] at hi
      simp only [List.length_cons, List.length_nil] at hi
      by_cases e : i = L.length
      · rw [if_pos e, e, gAt_app2]
      · rw [if_neg e, gAt_app (by omega)]
        exact r3 i (by omega)
/-- the edges out of a row, by its columns -/
theorem clP_iff (hI : bInv B) {x y : Int} (hx : 0 ≤ x ∧ x < 600) (hc : 0 ≤ kCe B x) : clP B x y ↔ ∃ c : Int, (0 ≤ c ∧ c < kCols B (x / 100)) ∧ kV B x c ≠ -1 ∧ y = 100 * kOf B (kRo B (x / 100) c) 1 + kV B x c := by
  have hg : (gR B : Int) = 100 * B 1 := by
    have := hI.1.2.1
    unfold gR
    omega
  constructor
  · rintro ⟨e, he, ⟨hrow, hv⟩, h1, h2⟩
    obtain ⟨g1, g2, g3, g4, g5, g6, g7, g8⟩ := g_at hI.1 he
    have d1 : gCh B e = 100 * kOf B ((e / 100 : Nat) : Int) 0 + ((e % 100 : Nat) : Int) := rfl
    have t1 : kOf B ((e / 100 : Nat) : Int) 0 = x / 100 := by omega
    have u := hI.2.2.2.1.2 (e / 100) g2
    have ro := kRo_at hI g2
    have v1 : gVal B e = kV B x (kOf B ((e / 100 : Nat) : Int) 2) := by
      show kV B (gCh B e) _ = _
      rw [h1]
    rw [t1] at u ro
    refine ⟨kOf B ((e / 100 : Nat) : Int) 2, ⟨g3.2.2.1.1, u⟩, by rw [← v1]; exact hv, ?_⟩
    rw [ro, ← v1, ← h2]
    rfl
  · rintro ⟨c, h1, h2, h3⟩
    obtain ⟨k1, k2, k3⟩ := kRo_of hI h1
    have e1 : (100 * (kRo B (x / 100) c).toNat + (x % 100).toNat) / 100 = (kRo B (x / 100) c).toNat := by omega
    have e2 : (((kRo B (x / 100) c).toNat : Nat) : Int) = kRo B (x / 100) c := by omega
    have ch : gCh B (100 * (kRo B (x / 100) c).toNat + (x % 100).toNat) = x := by
      rw [gCh_at (by omega), e2, k2]
      omega
    have vv : gVal B (100 * (kRo B (x / 100) c).toNat + (x % 100).toNat) = kV B x c := by
      show kV B (gCh B _) (kOf B ((_ : Nat) : Int) 2) = _
      rw [ch, e1, e2, k3]
    refine ⟨100 * (kRo B (x / 100) c).toNat + (x % 100).toNat, by omega, ⟨?_, by rw [vv]; exact h2⟩, ch, ?_⟩
    · show 0 ≤ kCe B (gCh B _)
      rw [ch]
      exact hc
    · show 100 * kOf B ((_ : Nat) : Int) 1 + gVal B _ = _
      rw [e1, e2, vv, h3]
theorem clP_in (hI : bInv B) (hF : bFk B) {x y : Int} (hp : clP B x y) : (0 ≤ y ∧ y < 600) ∧ 0 ≤ kCe B y := by
  obtain ⟨e, he, ⟨hrow, hv⟩, h1, rfl⟩ := hp
  obtain ⟨g1, g2, g3, g4, g5, g6, g7, g8⟩ := g_at hI.1 he
  exact ⟨(g6 hrow).2 hv, hF e he hrow hv⟩
theorem sp2 (hS : cS mi 1 B) (hF : bFk B) {x : Int} (hx : 0 ≤ x ∧ x < 600) (hc : 0 ≤ kCe B x) (hR : cCl mi B L) (hq : ∀ m2 s, cFC mi m2 → cCl m2 B (L ++ s) → (∀ y ∈ s, clP B x y) → (∀ y, clP B x y → y ∈ L ++ s) → Q none (mm_ms0 m2 h)) : mcl X 2 [.inr (some 66), .inr (some 1), .inl x] (mm_ms0 mi h) Q := by
  have hE := hS.1.ok.2.2
  have w0 := hS.1.1.1
  have hcc2 := hS.1.2.1 (x / 100)
  have hrow := cIsR hS.1 hx hc
  rw [c2, b2_0, Int.tdiv_eq_ediv_of_nonneg hx.1, Int.tmod_eq_emod_of_nonneg hx.1]
  refine sp39 hS ?_ (fun z => absurd hrow z)
  intro j g1 g2 g3 g4 g5
  have hT := hS.2.2.2.2 (x / 100).toNat (by omega)
  have hrc := hT.1
  have htt : (((x / 100).toNat : Nat) : Int) = x / 100 := by omega
  rw [mm_psh_i, b2_14, if_neg (by omega), b2_23]
  refine mm_for (fun n => ∀ (m : mm_M) (s : List Int) (o6 o7 : Option mm_V), cFC mi m → cCl m B (L ++ s) → (∀ y ∈ s, clP B x y) → (∀ c : Int, 0 ≤ c → c < n → c < kCols B (x / 100) → kV B x c ≠ -1 → 100 * kOf B (kRo B (x / 100) c) 1 + kV B x c ∈ L ++ s) → mwp X 2 26 [some (.inr (some 66)), some (.inr (some 1)), some (.inl x), some (.inl (x / 100)), some (.inl (20 * (x / 100) + j)), some (.inl (n : Int)), o6, o7] [] (mm_ms0 m h) Q) (kCols B (x / 100)).toNat ?_ ?_ 0 (Nat.zero_le _) mi [] none none (fun _ _ => rfl) (by rw [List.append_nil]; exact hR) (fun y hy => absurd hy List.not_mem_nil) (fun c h1 h2 => by omega)
  · intro m s o6 o7 hFm hRm h1 h2
    have hSm := hFm.S hS
    rw [b2_26, mm_andT (by omega), b2_34, cCol hSm (t := x / 100) (by omega), if_neg (by omega), b2_84]
    refine hq m s hFm hRm h1 (fun y hy => ?_)
    obtain ⟨c, k1, k2, k3⟩ := (clP_iff hS.1 hx hc).mp hy
    rw [k3]
    exact h2 c k1.1 (by omega) k1.2 k2
  · intro n hn ih m s o6 o7 hFm hRm h1 h2
    have hSm := hFm.S hS
    have hcc : (0 : Int) ≤ n ∧ (n : Int) < kCols B (x / 100) := by omega
    have gm3 : (j : Int) < cRc m 1 (x / 100).toNat := by
      unfold cRc at g3 ⊢
      rw [hFm (1 + 1) (by omega)]
      exact g3
    have gm4 : cKy m 1 (x / 100).toNat j = x % 100 := by
      unfold cKy at g4 ⊢
      rw [hFm (1 + 5) (by omega)]
      exact g4
    have hv : kV B x n = cVl m 1 (x / 100).toNat j ((n : Int)).toNat := by
      have := cRowV hSm (t := (x / 100).toNat) (j := j) (by omega) gm3 (c := (n : Int)) (by omega)
      rw [htt, gm4, show 100 * (x / 100) + x % 100 = x by omega] at this
      exact this
    rw [b2_26, mm_andT (by omega), b2_34, cCol hSm (t := x / 100) (by omega), if_pos (by omega), b2_37, show 20 * (x / 100) + (j : Int) = 20 * (((x / 100).toNat : Nat) : Int) + j by omega, sp40 (by omega) (by omega) (by omega), mm_psh_i, b2_45, ← hv, show 20 * (((x / 100).toNat : Nat) : Int) + (j : Int) = 20 * (x / 100) + j by omega]
    by_cases q : kV B x n = -1
    · rw [if_pos q, b2_78, mm_wi (z := (n : Int) + 1) (by omega) (by omega)]
      refine ih m s _ _ hFm hRm h1 (fun c k1 k2 k3 k4 => ?_)
      by_cases e : c = n
      · rw [e] at k4
        exact absurd q k4
      · exact h2 c k1 (by omega) k3 k4
    · have hp : clP B x (100 * kOf B (kRo B (x / 100) n) 1 + kV B x n) := (clP_iff hS.1 hx hc).mpr ⟨n, hcc, q, rfl⟩
      have hpi := clP_in hS.1 hF hp
      obtain ⟨k1, k2, k3⟩ := kRo_of hS.1 hcc
      have hk := hS.1.1.2.2.1 _ k1.1 k1.2
      have hk1 := hk.2.1
      have hvi := kV_in2 (c := (n : Int)) ⟨hc, (hS.1.1.2.2.2 x hx.1 hx.2).2⟩
      rw [if_neg q, b2_53, sp42 hSm ⟨⟨by omega, hrow.1.2⟩, hcc⟩, mm_psh_i, b2_61, sp41 hSm k1 (by omega), mm_psh_i, b2_65, sp89 (by omega) (by omega), mm_psh_i, b2_75]
      refine sp3 hE hRm hpi.1 hpi.2 ?_
      intro m2 hF2 hR2
      rw [mm_psh_n, b2_78, mm_wi (z := (n : Int) + 1) (by omega) (by omega)]
      by_cases e : 100 * kOf B (kRo B (x / 100) n) 1 + kV B x n ∈ L ++ s
      · rw [if_pos e] at hR2
        refine ih m2 s _ _ (hFm.tr hF2) hR2 h1 (fun c k1 k2 k3 k4 => ?_)
        by_cases e2 : c = n
        · rw [e2]; exact e
        · exact h2 c k1 (by omega) k3 k4
      · rw [if_neg e, List.append_assoc] at hR2
        refine ih m2 (s ++ [100 * kOf B (kRo B (x / 100) n) 1 + kV B x n]) _ _ (hFm.tr hF2) hR2 (fun y hy => ?_) (fun c k1 k2 k3 k4 => ?_)
        · rcases List.mem_append.mp hy with hy | hy
          · exact h1 y hy
          · rw [List.mem_singleton.mp hy]; exact hp
        · rw [← List.append_assoc]
          by_cases e2 : c = n
          · rw [e2]; exact List.mem_append_right _ (List.mem_singleton.mpr rfl)
          · exact List.mem_append_left _ (h2 c k1 (by omega) k3 k4)
theorem sp1 (hS : cS mi 1 B) (hF : bFk B) {x : Int} (hx : 0 ≤ x ∧ x < 600) (hc : 0 ≤ kCe B x) (h1q : kAncU B x x → ∀ m2, cFC mi m2 → Q (some (.inl 1)) (mm_ms0 m2 h)) (h0q : ¬ kAncU B x x → ∀ m2, cFC mi m2 → Q (some (.inl 0)) (mm_ms0 m2 h)) : mcl X 1 [.inr (some 66), .inr (some 1), .inl x] (mm_ms0 mi h) Q := by
  have hE := hS.1.ok.2.2
  rw [c1, b1_0]
  refine sp153c ?_
  intro m1 e1 e67
  rw [mm_psh_n, b1_8]
  have hF1 : cFC mi (mm_up m1 66 2 0) := fun a ha => by rw [mm_up_ne (by omega)]; exact e1 a (by omega)
  have hR1 : cCl (mm_up m1 66 2 0) B [] := by
    refine ⟨fun y h1 h2 => ?_, by rw [mm_up_at]; rfl, fun i hi => absurd hi (Nat.not_lt_zero _), List.nodup_nil, fun y hy => absurd hy List.not_mem_nil⟩
    rw [mm_up_ne (by decide), e67 _ (by omega)]
    exact ⟨fun z => absurd rfl z, fun z => absurd z List.not_mem_nil⟩
  generalize mm_up m1 66 2 0 = m2 at hF1 hR1 ⊢
  refine sp2 (hF1.S hS) hF hx hc hR1 ?_
  intro m3 s hF3 hR3 hs1 hs2
  rw [List.nil_append] at hR3 hs2
  rw [mm_psh_n, b1_19]
  have fin : ∀ (m : mm_M) (L : List Int) (l : Int), cFC mi m → cCl m B L → (∀ y ∈ L, kAncU B x y) → (∀ y, clP B x y → y ∈ L) → (∀ z ∈ L, ∀ y, clP B z y → y ∈ L) → mwp X 1 52 [some (.inr (some 66)), some (.inr (some 1)), some (.inl x), some (.inl l)] [] (mm_ms0 m h) Q := by
    intro m L l hFm hRm k1 k2 k3
    have cl : ∀ n z, kAnc B x n z → z ∈ L := by
      intro n
      induction n with
      | zero => intro z hz; exact hz.elim
      | succ n ih =>
        rintro z ⟨e, he, hed, hh, hz⟩
        rcases hh with hh | hh
        · exact k2 z ⟨e, he, hed, hh, hz⟩
        · exact k3 _ (ih _ hh) z ⟨e, he, hed, rfl, hz⟩
    have iff : x ∈ L ↔ kAncU B x x := ⟨fun z => k1 x z, fun ⟨n, z⟩ => cl n x z⟩
    rw [b1_52, mm_andT (by omega), b1_58]
    by_cases q : kAncU B x x
    · rw [if_neg ((hRm.1 x hx.1 hx.2).mpr (iff.mpr q)), b1_61, b1_66, mm_andT (Or.inr rfl)]
      exact h1q q m hFm
    · have z : m 67 x.toNat = 0 := Classical.byContradiction (fun z => q (iff.mp ((hRm.1 x hx.1 hx.2).mp z)))
      rw [if_pos z, b1_65, b1_66, mm_andT (Or.inl rfl)]
      exact h0q q m hFm
  refine mm_for (fun n => ∀ (m : mm_M) (L : List Int), cFC mi m → cCl m B L → (∀ y ∈ L, kAncU B x y) → (∀ y, clP B x y → y ∈ L) → (∀ i, i < n → i < L.length → ∀ y, clP B (gAt L i) y → y ∈ L) → mwp X 1 21 [some (.inr (some 66)), some (.inr (some 1)), some (.inl x), some (.inl (n : Int))] [] (mm_ms0 m h) Q) 120 ?_ ?_ 0 (Nat.zero_le _) m3 s (hF1.tr hF3) hR3 (fun y hy => ?_) hs2 (fun i hi => absurd hi (Nat.not_lt_zero _))
  · intro m L hFm hRm k1 k2 k3
    have hl := cCl_len (mi := m) hE hRm.2.2.2.1 hRm.2.2.2.2
    rw [b1_21, if_neg (by omega)]
    refine fin m L _ hFm hRm k1 k2 (fun z hz y hy => ?_)
    obtain ⟨i, hi, ei⟩ := List.getElem_of_mem hz
    have : gAt L i = z := by unfold gAt; rw [List.getD_eq_getElem?_getD, List.getElem?_eq_getElem hi]; exact ei
    exact k3 i (by omega) hi y (by rw [this]; exact hy)
  · intro n hn ih m L hFm hRm k1 k2 k3
    rw [b1_21, if_pos (by omega), b1_27, hRm.2.1]
    by_cases q : n < L.length
    · obtain ⟨y1, y2⟩ := gAt_mem q
      have hyin := hRm.2.2.2.2 _ y1
      rw [if_pos (by omega), b1_35, mm_andT (by omega), Int.toNat_natCast, hRm.2.2.1 n q, b1_43]
      refine sp2 (hFm.S hS) hF hyin.1 hyin.2 hRm ?_
      intro m4 s4 hF4 hR4 p1 p2
      rw [mm_psh_n, b1_46, mm_wi (z := (n : Int) + 1) (by omega) (by omega)]
      refine ih m4 (L ++ s4) (hFm.tr hF4) hR4 (fun y hy => ?_) (fun y hy => List.mem_append_left _ (k2 y hy)) (fun i hi hil y hy => ?_)
      · rcases List.mem_append.mp hy with hy | hy
        · exact k1 y hy
        · obtain ⟨e, he, hed, hch, hpa⟩ := p1 y hy
          obtain ⟨m, hm⟩ := k1 _ y1
          exact ⟨m + 1, e, he, hed, Or.inr (by rw [hch]; exact hm), hpa⟩
      · by_cases e : i = n
        · subst e
          rw [gAt_app q] at hy
          exact p2 y hy
        · rw [gAt_app (by omega)] at hy
          exact List.mem_append_left _ (k3 i (by omega) (by omega) y hy)
    · rw [if_neg (by omega)]
      refine fin m L _ hFm hRm k1 k2 (fun z hz y hy => ?_)
      obtain ⟨i, hi, ei⟩ := List.getElem_of_mem hz
      have : gAt L i = z := by unfold gAt; rw [List.getD_eq_getElem?_getD, List.getElem?_eq_getElem hi]; exact ei
      exact k3 i (by omega) hi y (by rw [this]; exact hy)
  · obtain ⟨e, he, hed, hch, hpa⟩ := hs1 y hy
    exact ⟨1, e, he, hed, Or.inl hch, hpa⟩
end CCL
