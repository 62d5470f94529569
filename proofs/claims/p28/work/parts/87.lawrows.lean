-- THE LAW's methods of ints: isRow, and what the ranks of a table tell
section LR
variable {X : Nat × (Nat → Int)} {mi : mm_M} {h : mm_H} {Q : Option mm_V → mm_S → Prop} {B : Int → Int}
theorem kKeyAt_at (hS : cS mi 1 B) {t j : Nat} (ht : (t : Int) < B 0) (hj : (j : Int) < kRows B t) : kKeyAt B t j = cKy mi 1 t j := by
  have w0 := hS.1.1.1
  have hT := hS.2.2.2.2 t (by omega)
  rw [hT.rows] at hj
  obtain ⟨hrc, hz, hrow, hso, hco⟩ := hT
  obtain ⟨r1, r2, r3, r4⟩ := hrow j hj
  unfold kKeyAt
  rw [if_neg (fun z => z ⟨by omega, ht⟩), if_neg (by omega)]
  have hf : fnx (kKeyP B t j) 100 0 = some (cKy mi 1 t j).toNat := by
    refine fnx_at (by omega) ?_ (fun i hi => ?_)
    · unfold kKeyP
      rw [decide_eq_true_eq]
      refine ⟨⟨⟨by omega, ht⟩, by omega, ?_⟩, cRank hS ht hj⟩
      rw [show (((cKy mi 1 t j).toNat : Nat) : Int) = cKy mi 1 t j by omega]
      omega
    · unfold kKeyP
      refine decide_eq_false (fun z => ?_)
      obtain ⟨i2, hi2, ei2⟩ := hco i (by have := z.1.2.1; omega) z.1.2.2
      have := cRank hS ht hi2
      rw [ei2] at this
      have e : i2 = j := by
        have h1 := z.2
        rw [show ((i : Int)).toNat = i by omega] at this
        omega
      subst e
      omega
  rw [hf]
  dsimp only
  omega
theorem kKeyAt_end (hS : cS mi 1 B) {t : Nat} (ht : (t : Int) < B 0) : kKeyAt B t (kRows B t) = -9 := by
  have w0 := hS.1.1.1
  have hT := hS.2.2.2.2 t (by omega)
  have hr0 : 0 ≤ kRows B t := cnt_nn _ _
  have hrr := hT.rows
  obtain ⟨hrc, hz, hrow, hso, hco⟩ := hT
  unfold kKeyAt
  rw [if_neg (fun z => z ⟨by omega, ht⟩), if_neg (by omega)]
  have hf : fnx (kKeyP B t (kRows B t)) 100 0 = none := by
    refine fnx_no (fun j hj => ?_)
    unfold kKeyP
    refine decide_eq_false (fun z => ?_)
    obtain ⟨i, hi, ei⟩ := hco j (by have := z.1.2.1; omega) z.1.2.2
    have := cRank hS ht hi
    rw [ei] at this
    have h1 := z.2
    rw [show ((j : Int)).toNat = j by omega] at this
    omega
  rw [hf]
theorem cTb.step {a t : Nat} (hT : cTb mi a B t) {p : Nat → Bool} (hp : ∀ k : Nat, k < 100 → kCe B (100 * t + k) < 0 → p k = false) {j : Nat} (hj : (j : Int) < cRc mi a t) : cnt (cAt mi a t (j + 1)) p = cnt (cAt mi a t j) p + (if p (cKy mi a t j).toNat = true then 1 else 0) := by
  have hle1 := (hT.le j).1
  have hle2 := (hT.le j).2 hj
  have hk := (hT.2.2.1 j hj).1
  have hg := cnt_steady (p := p) (lo := cAt mi a t j) (hi := (cKy mi a t j).toNat) (by omega) (fun k h1 h2 => hp k (by omega) (hT.gap h1 (by omega) (fun z => by omega)))
  have hn1 : cAt mi a t (j + 1) = (cKy mi a t j).toNat + 1 := by
    unfold cAt
    rw [if_neg (by omega), if_pos (by omega)]
    rfl
  rw [hn1, cnt_succ, hg]
theorem cTb.fin {a t : Nat} (hT : cTb mi a B t) {p : Nat → Bool} (hp : ∀ k : Nat, k < 100 → kCe B (100 * t + k) < 0 → p k = false) : cnt (cAt mi a t (cRc mi a t).toNat) p = cnt 100 p :=
  (cnt_steady (hT.le _).1 (fun k h1 h2 => hp k h2 (hT.gap h1 h2 (fun z => by have := hT.1; omega)))).symm
theorem cAt_0 {a t : Nat} : cAt mi a t 0 = 0 := rfl
set_option maxHeartbeats 4000000 in
theorem sp158 (hS : cS mi 1 B) {t v : Int} (hr : kIsRow B t v) (hq : Q (some (.inl 1)) (mm_ms0 mi h)) : mcl X 158 [.inr (some 0), .inl t, .inl v] (mm_ms0 mi h) Q := by
  have w0 := hS.1.1.1
  have h1 := hr.1
  have h2 := hr.2.1
  obtain ⟨tn, rfl⟩ : ∃ tn : Nat, t = tn := ⟨t.toNat, by omega⟩
  have hT := hS.2.2.2.2 tn (by omega)
  have hrows := hT.rows
  have hr0 : 0 ≤ kRows B tn := cnt_nn _ _
  have hr20 := hT.1
  obtain ⟨j0, hj0, ej0⟩ := hT.2.2.2.2 v.toNat (by omega) (by rw [show ((v.toNat : Nat) : Int) = v by omega]; exact hr.2.2)
  rw [c158, b158_0]
  refine mm_for (fun i => mwp X 158 5 [some (.inr (some 0)), some (.inl (tn : Int)), some (.inl v), some (.inl (if j0 < i then 1 else 0)), some (.inl (i : Int))] [] (mm_ms0 mi h) Q) (kRows B tn).toNat ?_ ?_ 0 (Nat.zero_le _)
  · rw [b158_5]
    refine sp72 hS ?_
    rw [kGiveR_in h1, mm_psh_i, b158_12, if_neg (by omega), b158_42, if_pos (by omega)]
    exact ⟨Or.inr rfl, hq⟩
  · intro i hi ih
    rw [b158_5]
    refine sp72 hS ?_
    rw [kGiveR_in h1, mm_psh_i, b158_12, if_pos (by omega), b158_15]
    by_cases q : j0 < i
    · rw [if_pos (show j0 < i + 1 by omega)] at ih
      rw [if_pos q, if_neg (by decide), b158_30, b158_35, mm_wi (by omega) (by omega)]
      exact ih
    · rw [if_neg q, if_pos rfl, b158_19]
      refine sp73 hS ?_
      rw [kKeyAt_at hS (by omega) (by omega), mm_psh_i, b158_26]
      by_cases q2 : i = j0
      · subst q2
        rw [if_pos (show i < i + 1 by omega)] at ih
        rw [if_pos (by omega), b158_30, b158_35, mm_wi (by omega) (by omega)]
        exact ih
      · have := hT.2.2.2.1 i j0 (by omega) hj0
        rw [if_neg (show ¬ j0 < i + 1 by omega)] at ih
        rw [if_neg (by omega), b158_34, b158_35, mm_wi (by omega) (by omega)]
        exact ih
/-- sums over keys -/
def sumN (f : Nat → Int) : Nat → Int
  | 0 => 0
  | n + 1 => sumN f n + f n
theorem sumN_co {f g : Nat → Int} : ∀ n, (∀ k, k < n → f k = g k) → sumN f n = sumN g n := by
  intro n
  induction n with
  | zero => intro _; rfl
  | succ n ih => intro hh; unfold sumN; rw [ih (fun k hk => hh k (by omega)), hh n (by omega)]
theorem sumN_steady {f : Nat → Int} {lo hi : Nat} (hl : lo ≤ hi) (hf : ∀ k, lo ≤ k → k < hi → f k = 0) : sumN f hi = sumN f lo :=
  steady (f := fun n => sumN f n) hl (fun e h1 h2 => by
    show sumN f e + f e = sumN f e
    rw [hf e h1 h2]
    omega)
theorem sumN_add {f g : Nat → Int} (n : Nat) : sumN (fun k => f k + g k) n = sumN f n + sumN g n := by
  induction n with
  | zero => rfl
  | succ n ih => unfold sumN; rw [ih]; omega
theorem sumN_one {c : Int} (n : Nat) : sumN (fun k => if (k : Int) = c then 1 else 0) n = if 0 ≤ c ∧ c < n then 1 else 0 := by
  induction n with
  | zero => rw [if_neg (by omega)]; rfl
  | succ n ih =>
    unfold sumN
    rw [ih]
    by_cases q : (n : Int) = c
    · rw [if_pos q, if_neg (by omega), if_pos (by omega)]
      rfl
    · rw [if_neg q]
      by_cases q2 : 0 ≤ c ∧ c < n
      · rw [if_pos q2, if_pos (by omega)]; rfl
      · rw [if_neg q2, if_neg (by omega)]; rfl
theorem sumN_zero (n : Nat) : sumN (fun _ => 0) n = 0 := by
  induction n with
  | zero => rfl
  | succ n ih => unfold sumN; rw [ih]; rfl
/-- counted twice: by the parents' keys, and by the children -/
theorem cnt_twice (row : Nat → Bool) (val : Nat → Int) (m : Nat) : ∀ n, sumN (fun k => cnt n (fun j => row j && decide (val j = k))) m = cnt n (fun j => row j && decide (0 ≤ val j ∧ val j < m)) := by
  intro n
  induction n with
  | zero =>
    rw [cnt_zero]
    exact (sumN_co m (fun k _ => cnt_zero _)).trans (sumN_zero m)
  | succ n ih =>
    rw [cnt_succ, ← ih, sumN_co (g := fun k => cnt n (fun j => row j && decide (val j = k)) + (if row n && decide (val n = k) then 1 else 0)) m (fun k _ => cnt_succ _ _), sumN_add]
    congr 1
    cases hr : row n with
    | false =>
      rw [sumN_co (g := fun _ => 0) m (fun k _ => by simp), sumN_zero]
      simp
    | true =>
      rw [sumN_co (g := fun k => if (k : Int) = val n then 1 else 0) m (fun k _ => by
        simp only [Bool.true_and, decide_eq_true_eq]
        by_cases q : val n = k
        · rw [if_pos q, if_pos q.symm]
        · rw [if_neg q, if_neg (fun z => q z.symm)]), sumN_one]
      simp only [Bool.true_and, decide_eq_true_eq]
theorem cTb.sstep {a t : Nat} (hT : cTb mi a B t) {f : Nat → Int} (hp : ∀ k : Nat, k < 100 → kCe B (100 * t + k) < 0 → f k = 0) {j : Nat} (hj : (j : Int) < cRc mi a t) : sumN f (cAt mi a t (j + 1)) = sumN f (cAt mi a t j) + f (cKy mi a t j).toNat := by
  have hle1 := (hT.le j).1
  have hle2 := (hT.le j).2 hj
  have hk := (hT.2.2.1 j hj).1
  have hg := sumN_steady (f := f) (lo := cAt mi a t j) (hi := (cKy mi a t j).toNat) (by omega) (fun k h1 h2 => hp k (by omega) (hT.gap h1 (by omega) (fun z => by omega)))
  have hn1 : cAt mi a t (j + 1) = (cKy mi a t j).toNat + 1 := by
    unfold cAt
    rw [if_neg (by omega), if_pos (by omega)]
    rfl
  rw [hn1, ← hg]
  rfl
theorem cTb.sfin {a t : Nat} (hT : cTb mi a B t) {f : Nat → Int} (hp : ∀ k : Nat, k < 100 → kCe B (100 * t + k) < 0 → f k = 0) : sumN f (cAt mi a t (cRc mi a t).toNat) = sumN f 100 :=
  (sumN_steady (hT.le _).1 (fun k h1 h2 => hp k h2 (hT.gap h1 h2 (fun z => by have := hT.1; omega)))).symm
end LR
