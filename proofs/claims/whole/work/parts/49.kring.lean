-- THE REFERENCE: does a row lead back to itself
abbrev kEdge (B : Int → Int) (e : Nat) : Prop := gRow B e ∧ gVal B e ≠ -1
def kAnc (B : Int → Int) (x0 : Int) : Nat → Int → Prop
  | 0, _ => False
  | n + 1, z => ∃ e, e < gR B ∧ kEdge B e ∧ (gCh B e = x0 ∨ kAnc B x0 n (gCh B e)) ∧ gPar B e = z
/-- z is a parent of x0, or a parent of a parent, and so on -/
def kAncU (B : Int → Int) (x0 z : Int) : Prop := ∃ n, kAnc B x0 n z
def kZe (mi : mm_M) : Int := cnt 600 (fun k => decide (mi 72 k = 0))
theorem cnt_drop {p q : Nat → Bool} {k : Nat} : ∀ n, k < n → p k = true → q k = false → (∀ j, j ≠ k → q j = p j) → cnt n q + 1 = cnt n p := by
  intro n
  induction n with
  | zero => intro hk; omega
  | succ n ih =>
    intro hk hp hq ho
    rw [cnt_succ, cnt_succ]
    by_cases e : k = n
    · subst e
      rw [if_neg (by rw [hq]; decide), if_pos hp, cnt_co (p := q) (q := p) (fun j hj => ho j (by omega))]
      omega
    · rw [ho n (fun z => e z.symm)]
      have := ih (by omega) hp hq ho
      omega
section KI
variable {X : Nat × (Nat → Int)} {mi : mm_M} {h : mm_H} {Q : Option mm_V → mm_S → Prop}
theorem kZe_up {mi : mm_M} {k : Nat} (hk : k < 600) (hz : mi 72 k = 0) : kZe (mm_up mi 72 k 1) + 1 = kZe mi := by
  unfold kZe
  refine cnt_drop 600 hk (decide_eq_true hz) (decide_eq_false ?_) ?_
  · rw [mm_up_at]; decide
  · intro j hj
    rw [mm_up_at2 hj]
/-- what the marks are while it goes on -/
def kMk (B : Int → Int) (x0 : Int) (mi : mm_M) : Prop := ∀ k : Nat, k < 600 → (mi 72 k = 0 ∨ mi 72 k = 1) ∧ (mi 72 k ≠ 0 → kAncU B x0 k)
theorem sp150 (hM : mOk (kBlk mi 0)) {x0 : Int} (hx : 0 ≤ x0 ∧ x0 < 600) (h1 : kAncU (kBlk mi 0) x0 x0 → ∀ mi2, kFr mi mi2 → Q (some (.inl 1)) (mm_ms0 mi2 h)) (h0 : ¬ kAncU (kBlk mi 0) x0 x0 → ∀ mi2, kFr mi mi2 → Q (some (.inl 0)) (mm_ms0 mi2 h)) : mcl X 150 [.inr (some 69), .inl x0] (mm_ms0 mi h) Q := by
  have hW := hM.1
  have w1 := hW.2.1
  have w0 := hW.1
  have hg : (gR (kBlk mi 0) : Int) = 100 * kBlk mi 0 1 := by unfold gR; omega
  rw [c150, b150_0]
  refine mm_for (fun n => ∀ mi2, kFr mi mi2 → (∀ k, k < n → mi2 72 k = 0) → mwp X 150 2 [some (.inr (some 69)), some (.inl x0), some (.inl (n : Int)), none, none, none, none] [] (mm_ms0 mi2 h) Q) 600 ?_ ?_ 0 (Nat.zero_le _) mi kFr.rf (fun k hk => absurd hk (Nat.not_lt_zero _))
  · intro mi2 hF2 hz2
    rw [b150_2, if_neg (by omega), b150_22]
    -- the rounds
    have rounds : ∀ (f : Nat) (mi3 : mm_M) (o3 o4 o5 o6 : Option mm_V), kFr mi mi3 → kMk (kBlk mi 0) x0 mi3 → kZe mi3 < f → mwp X 150 24 [some (.inr (some 69)), some (.inl x0), some (.inl 1), o3, o4, o5, o6] [] (mm_ms0 mi3 h) Q := by
      intro f
      induction f with
      | zero =>
        intro mi3 o3 o4 o5 o6 hF3 hk3 hf
        have := cnt_nn 600 (fun k => decide (mi3 72 k = 0))
        unfold kZe at hf
        omega
      | succ f ih =>
        intro mi3 o3 o4 o5 o6 hF3 hk3 hf
        rw [b150_24, if_neg (by omega), b150_28]
        refine mm_for (fun n => ∀ (mi4 : mm_M) (c : Int) (o4 o5 o6 : Option mm_V), kFr mi mi4 → kMk (kBlk mi 0) x0 mi4 → (c = 0 ∧ kZe mi4 = kZe mi3 ∧ (∀ e, e < n → kEdge (kBlk mi 0) e → (gCh (kBlk mi 0) e = x0 ∨ mi4 72 (gCh (kBlk mi 0) e).toNat ≠ 0) → mi4 72 (gPar (kBlk mi 0) e).toNat ≠ 0) ∨ c = 1 ∧ kZe mi4 < kZe mi3) → mwp X 150 32 [some (.inr (some 69)), some (.inl x0), some (.inl c), some (.inl (n : Int)), o4, o5, o6] [] (mm_ms0 mi4 h) Q) (gR (kBlk mi 0)) ?_ ?_ 0 (Nat.zero_le _) mi3 0 o4 o5 o6 hF3 hk3 (Or.inl ⟨rfl, rfl, fun e he => absurd he (Nat.not_lt_zero _)⟩)
        · intro mi4 c o4 o5 o6 hF4 hk4 hc
          have hB4 : kBlk mi4 0 = kBlk mi 0 := hF4.blk 0
          rw [b150_32]
          refine ⟨by omega, ?_⟩
          rw [b150_41, mB_0 (mi := mi4) (z := 1) (by omega), hB4, mm_wi (by omega) (by omega), if_neg (by omega), b150_168]
          rcases hc with ⟨rfl, ez, hcl⟩ | ⟨rfl, ez⟩
          · rw [b150_24, if_pos rfl, b150_171]
            refine ⟨by omega, ?_⟩
            rw [b150_177]
            have hx0 := hk4 x0.toNat (by omega)
            refine ⟨hx0.1, ?_⟩
            -- closed: every ancestor is marked
            have cl : ∀ n z, kAnc (kBlk mi 0) x0 n z → mi4 72 z.toNat ≠ 0 := by
              intro n
              induction n with
              | zero => intro z hz; exact hz.elim
              | succ n ihn =>
                rintro z ⟨e, he, hed, hh, rfl⟩
                refine hcl e he hed ?_
                rcases hh with hh | hh
                · exact Or.inl hh
                · exact Or.inr (ihn _ hh)
            rcases hx0.1 with q | q
            · rw [q]
              refine h0 ?_ mi4 hF4
              rintro ⟨n, hn⟩
              exact cl n x0 hn q
            · rw [q]
              refine h1 ?_ mi4 hF4
              have := hx0.2 (by rw [q]; decide)
              rw [show ((x0.toNat : Nat) : Int) = x0 by omega] at this
              exact this
          · exact ih mi4 _ _ _ _ hF4 hk4 (by omega)
        · intro n hn ihn mi4 c o4 o5 o6 hF4 hk4 hc
          have hB4 : kBlk mi4 0 = kBlk mi 0 := hF4.blk 0
          have hB4' : mB mi4 0 = kBlk mi 0 := hB4
          obtain ⟨hch, hr, hk, hcc, hne, hv, t1, t2⟩ := g_at hW hn
          have k0 := hk.1
          have k1 := hk.2.1
          have c01 : c = 0 ∨ c = 1 := by rcases hc with hc | hc; exact Or.inl hc.1; exact Or.inr hc.1
          rw [b150_32]
          refine ⟨by omega, ?_⟩
          rw [b150_41, mB_0 (mi := mi4) (z := 1) (by omega), hB4, mm_wi (by omega) (by omega), if_pos (by omega), b150_45, t1, sp95 kb0 (by omega) (by omega), mm_psh_i, b150_57, t2, hB4']
          rw [mm_wi (z := 100 * kOf (kBlk mi 0) ((n / 100 : Nat) : Int) 0) (by omega) (by omega), mm_wi (z := 100 * kOf (kBlk mi 0) ((n / 100 : Nat) : Int) 0 + ((n % 100 : Nat) : Int)) (by omega) (by omega)]
          rw [show 100 * kOf (kBlk mi 0) ((n / 100 : Nat) : Int) 0 + ((n % 100 : Nat) : Int) = gCh (kBlk mi 0) n from rfl, mm_wi (z := 198 + gCh (kBlk mi 0) n) (by omega) (by omega)]
          refine ⟨by omega, ?_⟩
          rw [b150_76, mB_0 (mi := mi4) (z := 198 + gCh (kBlk mi 0) n) (by omega), hB4, show kBlk mi 0 (198 + gCh (kBlk mi 0) n) = kCe (kBlk mi 0) (gCh (kBlk mi 0) n) from rfl]
          -- on to the next place, nothing marked
          have skip : ∀ o4 o5 o6 : Option mm_V, (kEdge (kBlk mi 0) n → (gCh (kBlk mi 0) n = x0 ∨ mi4 72 (gCh (kBlk mi 0) n).toNat ≠ 0) → mi4 72 (gPar (kBlk mi 0) n).toNat ≠ 0) → ∀ l4 l5 l6 : Int, o4 = some (.inl l4) → o5 = some (.inl l5) → o6 = some (.inl l6) → mwp X 150 162 [some (.inr (some 69)), some (.inl x0), some (.inl c), some (.inl (n : Int)), o4, o5, o6] [] (mm_ms0 mi4 h) Q := by
            intro o4 o5 o6 g l4 l5 l6 e4 e5 e6
            subst e4; subst e5; subst e6
            rw [b150_162, mm_wi (z := (n : Int) + 1) (by omega) (by omega)]
            refine ihn mi4 c _ _ _ hF4 hk4 ?_
            rcases hc with ⟨a1, a2, a3⟩ | hc
            · refine Or.inl ⟨a1, a2, fun e he => ?_⟩
              by_cases q : e = n
              · rw [q]; exact g
              · exact a3 e (by omega)
            · exact Or.inr hc
          by_cases q1 : kCe (kBlk mi 0) (gCh (kBlk mi 0) n) < 0
          · rw [if_pos q1, b150_79, b150_100, t1, sp95 kb0 (by omega) (by omega), mm_psh_i, b150_114, if_pos rfl]
            exact skip _ _ _ (fun z => by have : 0 ≤ kCe (kBlk mi 0) (gCh (kBlk mi 0) n) := z.1; omega) _ _ _ rfl rfl rfl
          · have hrow : gRow (kBlk mi 0) n := by show 0 ≤ kCe (kBlk mi 0) (gCh (kBlk mi 0) n); omega
            obtain ⟨v1, v2⟩ := hv hrow
            rw [if_neg q1, b150_83, t1, sp95 kb0 (by omega) (by omega), mm_psh_i, b150_97, sp96 kb0 hch (by rw [hB4']; exact ⟨hrow, hcc.2⟩), mm_psh_i, b150_100, t1, sp95 kb0 (by omega) (by omega), mm_psh_i, b150_114, hB4']
            rw [show kV (kBlk mi 0) (gCh (kBlk mi 0) n) (kOf (kBlk mi 0) ((n / 100 : Nat) : Int) 2) = gVal (kBlk mi 0) n from rfl]
            by_cases q2 : gVal (kBlk mi 0) n = -1
            · rw [if_pos q2]
              exact skip _ _ _ (fun z => absurd q2 z.2) _ _ _ rfl rfl rfl
            · have hp := v2 q2
              rw [if_neg q2, b150_126, mm_wi (z := 100 * kOf (kBlk mi 0) ((n / 100 : Nat) : Int) 1) (by omega) (by omega), show 100 * kOf (kBlk mi 0) ((n / 100 : Nat) : Int) 1 + gVal (kBlk mi 0) n = gPar (kBlk mi 0) n from rfl, mm_wi (z := gPar (kBlk mi 0) n) (by omega) (by omega)]
              -- the row counts: is its parent marked
              have take : (gCh (kBlk mi 0) n = x0 ∨ mi4 72 (gCh (kBlk mi 0) n).toNat ≠ 0) → mwp X 150 142 [some (.inr (some 69)), some (.inl x0), some (.inl c), some (.inl (n : Int)), some (.inl (gCh (kBlk mi 0) n)), some (.inl (gVal (kBlk mi 0) n)), some (.inl (gPar (kBlk mi 0) n))] [] (mm_ms0 mi4 h) Q := by
                intro hh
                rw [b150_142]
                refine ⟨hp, ?_⟩
                rw [b150_149]
                by_cases q3 : mi4 72 (gPar (kBlk mi 0) n).toNat = 0
                · rw [if_pos q3, b150_152]
                  refine ⟨⟨hp, Or.inr rfl⟩, ?_⟩
                  rw [b150_160, b150_162, mm_wi (z := (n : Int) + 1) (by omega) (by omega)]
                  have hz := kZe_up (mi := mi4) (k := (gPar (kBlk mi 0) n).toNat) (by omega) q3
                  refine ihn _ 1 _ _ _ (hF4.up (Or.inl rfl)) ?_ (Or.inr ⟨rfl, ?_⟩)
                  · intro k hk2
                    rw [mm_up_if]
                    by_cases q4 : k = (gPar (kBlk mi 0) n).toNat
                    · rw [if_pos q4]
                      refine ⟨Or.inr rfl, fun _ => ?_⟩
                      rw [q4, show (((gPar (kBlk mi 0) n).toNat : Nat) : Int) = gPar (kBlk mi 0) n by omega]
                      rcases hh with hh | hh
                      · exact ⟨1, n, hn, ⟨hrow, q2⟩, Or.inl hh, rfl⟩
                      · obtain ⟨m, hm⟩ := (hk4 (gCh (kBlk mi 0) n).toNat (by omega)).2 hh
                        rw [show (((gCh (kBlk mi 0) n).toNat : Nat) : Int) = gCh (kBlk mi 0) n by omega] at hm
                        exact ⟨m + 1, n, hn, ⟨hrow, q2⟩, Or.inr hm, rfl⟩
                    · rw [if_neg q4]
                      exact hk4 k hk2
                  · rcases hc with hc | hc <;> omega
                · rw [if_neg q3]
                  exact skip _ _ _ (fun _ _ => q3) _ _ _ rfl rfl rfl
              by_cases q5 : gCh (kBlk mi 0) n = x0
              · rw [if_pos q5]
                exact take (Or.inl q5)
              · rw [if_neg q5, b150_132]
                refine ⟨hch, ?_⟩
                rw [b150_139]
                by_cases q6 : mi4 72 (gCh (kBlk mi 0) n).toNat = 0
                · rw [if_pos q6]
                  exact skip _ _ _ (fun _ z => z.elim (fun y => absurd y q5) (fun y => absurd q6 y)) _ _ _ rfl rfl rfl
                · rw [if_neg q6]
                  exact take (Or.inr q6)
    refine rounds 601 mi2 _ _ _ _ hF2 (fun k hk => ⟨Or.inl (hz2 k hk), fun z => absurd (hz2 k hk) z⟩) ?_
    have := cnt_le 600 (fun k => decide (mi2 72 k = 0))
    unfold kZe
    omega
  · intro n hn ih mi2 hF2 hz2
    rw [b150_2, if_pos (by omega), b150_9]
    refine ⟨⟨by omega, Or.inl rfl⟩, ?_⟩
    rw [b150_16, mm_wi (z := (n : Int) + 1) (by omega) (by omega)]
    refine ih _ (hF2.up (Or.inl rfl)) ?_
    intro k hk
    rw [mm_up_if, Int.toNat_natCast]
    by_cases q : k = n
    · rw [if_pos q]
    · rw [if_neg q]; exact hz2 k (by omega)
noncomputable def kRing (B : Int → Int) (t k : Int) : Int := if ¬ kIsRow B t k then -2 else @ite _ (kAncU B (100 * t + k) (100 * t + k)) (Classical.propDecidable _) 1 0
theorem sp151 (hM : mOk (kBlk mi 0)) {t k : Int} (hq : ∀ mi2, kKeep mi mi2 → Q (some (.inl (kRing (kBlk mi 0) t k))) (mm_ms0 mi2 h)) : mcl X 151 [.inr (some 69), .inl t, .inl k] (mm_ms0 mi h) Q := by
  have w0 := hM.1.1
  unfold kRing at hq
  rw [c151, b151_0, sp94' kb0 hM.1, mm_psh_i, b151_7, mm_ite0, ← kBlk_0]
  by_cases q1 : kIsRow (kBlk mi 0) t k
  · rw [if_neg (fun z => z q1)] at hq
    rw [if_pos q1, b151_13, mm_wi (z := 100 * t) (by omega) (by omega), mm_wi (z := 100 * t + k) (by omega) (by omega)]
    refine sp150 hM (by omega) ?_ ?_
    · intro q2 mi2 hF
      rw [if_pos q2] at hq
      rw [mm_psh_i, b151_23, if_neg (by omega), b151_26, b151_31]
      exact hq mi2 hF.keep
    · intro q2 mi2 hF
      rw [if_neg q2] at hq
      rw [mm_psh_i, b151_23, if_pos rfl, b151_30, b151_31]
      exact hq mi2 hF.keep
  · rw [if_pos q1] at hq
    rw [if_neg q1, b151_10]
    exact hq mi kKeep.rf
end KI
