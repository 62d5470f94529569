-- told: a number of the block alone
def toL64 (z : Int) : Int64 := (Int32.ofInt z).toInt64
noncomputable def lt1 (B : Int → Int) : Nat → Int64
  | 0 => 7
  | n + 1 => 31 * lt1 B n + toL64 (kTotC B 0 0 n)
noncomputable def lt3 (B : Int → Int) (t : Int) (x : Int64) : Nat → Int64
  | 0 => x
  | n + 1 => 31 * (31 * (31 * lt3 B t x n + toL64 (kKeyAt B t n)) + toL64 (kGiveV B t (kKeyAt B t n) 0)) + toL64 (kGiveV B t (kKeyAt B t n) 1)
noncomputable def lt2 (B : Int → Int) : Nat → Int64
  | 0 => lt1 B 7
  | t + 1 => lt3 B t (lt2 B t) (kRows B t).toNat
noncomputable def lt4 (B : Int → Int) : Nat → Int64
  | 0 => lt2 B (B 0).toNat
  | k + 1 => 31 * lt4 B k + toL64 (kGiveF B (Int.tdiv k 6) (Int.tmod k 6))
noncomputable def lt5 (B : Int → Int) : Nat → Int64
  | 0 => lt4 B (6 * B 1).toNat
  | k + 1 => 31 * lt5 B k + toL64 (kGiveD B k)
noncomputable def lTold (B : Int → Int) : Int64 := lt5 B 9
section LT
variable {X : Nat × (Nat → Int)} {mi : mm_M} {h : mm_H} {Q : ml_A → mm_S → Prop} {B : Int → Int}
theorem kTotC_lo {a b w : Int} (hw : 0 ≤ w ∧ w < 7) : kTotC B a b w = kTotC B 0 0 w := by
  rcases (show w = 0 ∨ w = 1 ∨ w = 2 ∨ w = 3 ∨ w = 4 ∨ w = 5 ∨ w = 6 by omega) with rfl | rfl | rfl | rfl | rfl | rfl | rfl <;> rfl
theorem kTotC_0 {a b : Int} : kTotC B a b 0 = B 0 := rfl
theorem kTotC_1 {a b : Int} : kTotC B a b 1 = B 1 := rfl
theorem kGiveR_in {t : Int} (ht : 0 ≤ t ∧ t < B 0) : kGiveR B t = kRows B t := if_pos ht
set_option maxHeartbeats 4000000 in
theorem spTold (hS : cS mi 1 B) (hq : Q (.inr (lTold B)) (mm_ms0 mi h)) : lwp X 0 ((0, mm_entry mi_L_told [.inr (some 0)], [], mm_ms0 mi h, 0, 0), [], []) Q := by
  have w0 := hS.1.1.1
  have w1 := hS.1.1.2.1
  have hrows := hS.1.2.2.2.2.1.1
  -- the last loop
  have l5 : ∀ (o4 o5 : Option mm_V) (i : Nat), i ≤ 9 → lwp X 0 ((156, [some (.inr (some 0)), none, none, some (.inl (i : Int)), o4, o5], [], mm_ms0 mi h, 0, 0), [], [(1, lt5 B i)]) Q := by
    intro o4 o5
    refine mm_for (fun i => lwp X 0 ((156, [some (.inr (some 0)), none, none, some (.inl (i : Int)), o4, o5], [], mm_ms0 mi h, 0, 0), [], [(1, lt5 B i)]) Q) 9 ?_ ?_
    · exact ztl_156 (fun z => absurd z (by omega)) (fun _ => ztl_181 hq)
    · intro i hi ih
      refine ztl_156 (fun _ => ?_) (fun z => absurd z (by omega))
      refine ztl_162 ?_
      refine sp77 hS ?_
      rw [mm_psh_i]
      refine ztl_172 ?_
      rw [mm_wi (by omega) (by omega)]
      exact ih
  -- the loop of references
  have l4 : ∀ (o4 o5 : Option mm_V) (i : Nat), i ≤ (6 * B 1).toNat → lwp X 0 ((116, [some (.inr (some 0)), none, none, some (.inl (i : Int)), o4, o5], [], mm_ms0 mi h, 0, 0), [], [(1, lt4 B i)]) Q := by
    intro o4 o5
    refine mm_for (fun i => lwp X 0 ((116, [some (.inr (some 0)), none, none, some (.inl (i : Int)), o4, o5], [], mm_ms0 mi h, 0, 0), [], [(1, lt4 B i)]) Q) (6 * B 1).toNat ?_ ?_
    · refine ztl_116 ?_
      refine sp78 hS ?_
      rw [kTotC_1, mm_psh_i]
      refine ztl_124 (fun z => absurd z (by rw [mm_wi (by omega) (by omega)]; omega)) (fun _ => ?_)
      exact ztl_154 (l5 o4 o5 0 (by omega))
    · intro i hi ih
      refine ztl_116 ?_
      refine sp78 hS ?_
      rw [kTotC_1, mm_psh_i]
      refine ztl_124 (fun _ => ?_) (fun z => absurd z (by rw [mm_wi (by omega) (by omega)]; omega))
      refine ztl_128 ?_
      refine sp76 hS ?_
      rw [mm_psh_i]
      refine ztl_145 ?_
      rw [mm_wi (by omega) (by omega)]
      exact ih
  -- the loop of tables
  have l2 : ∀ (i : Nat), i ≤ (B 0).toNat → ∀ (o4 o5 : Option mm_V), lwp X 0 ((33, [some (.inr (some 0)), none, none, some (.inl (i : Int)), o4, o5], [], mm_ms0 mi h, 0, 0), [], [(1, lt2 B i)]) Q := by
    refine mm_for (fun i => ∀ (o4 o5 : Option mm_V), lwp X 0 ((33, [some (.inr (some 0)), none, none, some (.inl (i : Int)), o4, o5], [], mm_ms0 mi h, 0, 0), [], [(1, lt2 B i)]) Q) (B 0).toNat ?_ ?_
    · intro o4 o5
      refine ztl_33 ?_
      refine sp78 hS ?_
      rw [kTotC_0, mm_psh_i]
      refine ztl_39 (fun z => absurd z (by omega)) (fun _ => ?_)
      exact ztl_114 (l4 o4 o5 0 (by omega))
    · intro t ht ih o4 o5
      have hr20 := hrows t (by omega)
      have hr0 := cnt_nn 100 (fun k => decide (0 ≤ kCe B (100 * t + k)))
      have hr0 : 0 ≤ kRows B t := hr0
      refine ztl_33 ?_
      refine sp78 hS ?_
      rw [kTotC_0, mm_psh_i]
      refine ztl_39 (fun _ => ?_) (fun z => absurd z (by omega))
      refine ztl_42 ?_
      have l3 : ∀ (i : Nat), i ≤ (kRows B t).toNat → ∀ (o5 : Option mm_V), lwp X 0 ((45, [some (.inr (some 0)), none, none, some (.inl (t : Int)), some (.inl (i : Int)), o5], [], mm_ms0 mi h, 0, 0), [], [(1, lt3 B t (lt2 B t) i)]) Q := by
        refine mm_for (fun i => ∀ (o5 : Option mm_V), lwp X 0 ((45, [some (.inr (some 0)), none, none, some (.inl (t : Int)), some (.inl (i : Int)), o5], [], mm_ms0 mi h, 0, 0), [], [(1, lt3 B t (lt2 B t) i)]) Q) (kRows B t).toNat ?_ ?_
        · intro o5
          refine ztl_45 ?_
          refine sp72 hS ?_
          rw [kGiveR_in (by omega), mm_psh_i]
          refine ztl_52 (fun z => absurd z (by omega)) (fun _ => ?_)
          refine ztl_108 ?_
          rw [mm_wi (by omega) (by omega)]
          exact ih _ _
        · intro i hi ih2 o5
          refine ztl_45 ?_
          refine sp72 hS ?_
          rw [kGiveR_in (by omega), mm_psh_i]
          refine ztl_52 (fun _ => ?_) (fun z => absurd z (by omega))
          refine ztl_55 ?_
          refine sp73 hS ?_
          rw [mm_psh_i]
          refine ztl_62 ?_
          refine sp74 hS ?_
          rw [mm_psh_i]
          refine ztl_88 ?_
          refine sp74 hS ?_
          rw [mm_psh_i]
          refine ztl_99 ?_
          rw [mm_wi (by omega) (by omega)]
          exact ih2 _
      exact l3 0 (by omega) o5
  show lwp X 0 ((0, [some (.inr (some 0)), none, none, none, none, none], [], mm_ms0 mi h, 0, 0), [], []) Q
  refine ztl_0 ?_
  refine mm_for (fun i => lwp X 0 ((6, [some (.inr (some 0)), none, none, some (.inl (i : Int)), none, none], [], mm_ms0 mi h, 0, 0), [], [(1, lt1 B i)]) Q) 7 ?_ ?_ 0 (by omega)
  · refine ztl_6 (fun z => absurd z (by omega)) (fun _ => ?_)
    exact ztl_31 (l2 0 (by omega) none none)
  · intro i hi ih
    refine ztl_6 (fun _ => ?_) (fun z => absurd z (by omega))
    refine ztl_12 ?_
    refine sp78 hS ?_
    rw [kTotC_lo (by omega), mm_psh_i]
    refine ztl_22 ?_
    rw [mm_wi (by omega) (by omega)]
    exact ih
end LT
