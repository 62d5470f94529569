-- THE CALCULUS of runs of the small machine, once all objects are made
def mm_SH : List (Nat × Nat) := [(5, 8), (4, 13), (10, 6), (10, 6), (10, 12), (10, 72), (10, 120), (10, 240), (10, 120), (4, 13), (10, 6), (10, 6), (10, 12), (10, 72), (10, 120), (10, 240), (10, 120), (4, 13), (10, 6), (10, 6), (10, 12), (10, 72), (10, 120), (10, 240), (10, 120), (2, 2), (13, 4), (4, 13), (10, 6), (10, 6), (10, 12), (10, 72), (10, 120), (10, 240), (10, 120), (4, 13), (10, 6), (10, 6), (10, 12), (10, 72), (10, 120), (10, 240), (10, 120), (4, 13), (10, 6), (10, 6), (10, 12), (10, 72), (10, 120), (10, 240), (10, 120), (4, 13), (10, 6), (10, 6), (10, 12), (10, 72), (10, 120), (10, 240), (10, 120), (3, 10), (12, 60), (1, 9), (10, 120), (10, 600), (10, 120), (10, 120), (0, 3), (10, 600), (10, 120)]
def mm_RF : List (List (Option Nat)) := [[some 1, some 9, some 17, none, some 25, some 59, some 61, some 66], [none, none, some 2, some 3, some 4, some 5, some 6, some 7, some 8, none, none, none, none], [], [], [], [], [], [], [], [none, none, some 10, some 11, some 12, some 13, some 14, some 15, some 16, none, none, none, none], [], [], [], [], [], [], [], [none, none, some 18, some 19, some 20, some 21, some 22, some 23, some 24, none, none, none, none], [], [], [], [], [], [], [], [some 26, none], [], [none, none, some 28, some 29, some 30, some 31, some 32, some 33, some 34, none, none, none, none], [], [], [], [], [], [], [], [none, none, some 36, some 37, some 38, some 39, some 40, some 41, some 42, none, none, none, none], [], [], [], [], [], [], [], [none, none, some 44, some 45, some 46, some 47, some 48, some 49, some 50, none, none, none, none], [], [], [], [], [], [], [], [none, none, some 52, some 53, some 54, some 55, some 56, some 57, some 58, none, none, none, none], [], [], [], [], [], [], [], [some 60], [], [some 62, none, none, none, none, some 63, some 64, some 65], [], [], [], [], [some 67, some 68], [], []]
/-- the references: all stand still but those of the history's array -/
def mm_mr (h : List Nat) (a k : Nat) : Option Nat := bif a == 26 then h[k]? else (mm_RF.getD a []).getD k none
abbrev mm_M : Type := Nat → Nat → Int
abbrev mm_H : Type := List Nat
def mm_ms0 (mi : mm_M) (h : mm_H) : mm_S := (mm_SH, mi, mm_mr h)
/-- from there the method ends, with Q of its answer and the memory behind it -/
def mwp (X : Nat × (Nat → Int)) (m pc : Nat) (L : mm_L) (st : List mm_V) (S : mm_S) (Q : Option mm_V → mm_S → Prop) : Prop := ∃ (n : Nat) (v : Option mm_V) (S1 : mm_S), mm_run mt X n m (pc, L, st, S, 0, 0) = some (v, S1) ∧ Q v S1
/-- a call -/
def mcl (X : Nat × (Nat → Int)) (m : Nat) (as : List mm_V) (S : mm_S) (Q : Option mm_V → mm_S → Prop) : Prop := ∃ e0, mt_ents[m]? = some e0 ∧ mwp X m 0 (mm_entry e0.1 as) [] S Q
def mm_psh (v : Option mm_V) (r : List mm_V) : List mm_V := v.toList ++ r
theorem mm_psh_i {z : Int} {r : List mm_V} : mm_psh (some (.inl z)) r = .inl z :: r := rfl
theorem mm_psh_n {r : List mm_V} : mm_psh none r = r := rfl
theorem mwp_mono {X : Nat × (Nat → Int)} {m pc : Nat} {L : mm_L} {st : List mm_V} {S : mm_S} {Q Q2 : Option mm_V → mm_S → Prop} (h : mwp X m pc L st S Q) (hq : ∀ v S1, Q v S1 → Q2 v S1) : mwp X m pc L st S Q2 := by
  obtain ⟨n, v, S1, h1, h2⟩ := h
  exact ⟨n, v, S1, h1, hq v S1 h2⟩
theorem mcl_mono {X : Nat × (Nat → Int)} {m : Nat} {as : List mm_V} {S : mm_S} {Q Q2 : Option mm_V → mm_S → Prop} (h : mcl X m as S Q) (hq : ∀ v S1, Q v S1 → Q2 v S1) : mcl X m as S Q2 := by
  obtain ⟨e0, h1, h2⟩ := h
  exact ⟨e0, h1, mwp_mono h2 hq⟩
theorem mm_run_mono (Ts : mm_T) (X : Nat × (Nat → Int)) : ∀ (n k : Nat) (c : mm_C) (r : Option mm_V × mm_S), mm_run Ts X n k c = some r → ∀ d, mm_run Ts X (n + d) k c = some r := by
  intro n
  induction n with
  | zero => intro k c r h; cases h
  | succ n ih =>
    intro k c r h d
    rw [show n + 1 + d = (n + d) + 1 by omega]
    unfold mm_run at h ⊢
    cases hk : Ts.1[k]? with
    | none => rw [hk] at h; cases h
    | some e0 =>
      rw [hk] at h
      dsimp only at h ⊢
      cases ha : mm_at e0.2 c.1 with
      | none => rw [ha] at h; cases h
      | some q =>
        obtain ⟨ins, len, tgt⟩ := q
        rw [ha] at h
        dsimp only at h ⊢
        cases hs : mm_step Ts X e0.1 ins len tgt c with
        | none => rw [hs] at h; cases h
        | some o =>
          rw [hs] at h
          rcases o with c2 | ⟨k2, as, pc, L, st, S, cu, su⟩ | ⟨v, S1⟩
          · exact ih k c2 r h d
          · dsimp only at h ⊢
            cases hk2 : Ts.1[k2]? with
            | none => rw [hk2] at h; cases h
            | some e1 =>
              rw [hk2] at h
              dsimp only at h ⊢
              cases hr : mm_run Ts X n k2 (0, mm_entry e1.1 as, [], S, 0, 0) with
              | none => rw [hr] at h; cases h
              | some q =>
                rw [hr] at h
                rw [ih k2 _ q hr d]
                exact ih k _ r h d
          · exact h
/-- k steps that only go on -/
def mm_stepsE (X : Nat × (Nat → Int)) (I : mm_I) (K : mm_K) : Nat → mm_C → Option mm_C
  | 0, c => some c
  | k + 1, (pc, L, st, S, cu, su) => match mm_at K pc with
    | none => none
    | some (ins, len, tgt) => match mm_step mt X I ins len tgt (pc, L, st, S, cu, su) with
      | some (.inl c2) => mm_stepsE X I K k c2
      | _ => none
theorem mm_steps_run {X : Nat × (Nat → Int)} {I : mm_I} {K : mm_K} {m : Nat} (he : mt_ents[m]? = some (I, K)) : ∀ (k : Nat) (c c2 : mm_C), mm_stepsE X I K k c = some c2 → ∀ (n : Nat) (r : Option mm_V × mm_S), mm_run mt X (n + k) m c = some r ↔ mm_run mt X n m c2 = some r := by
  intro k
  induction k with
  | zero => intro c c2 h n r; cases h; exact Iff.rfl
  | succ k ih =>
    intro c c2 h n r
    unfold mm_stepsE at h
    rw [show n + (k + 1) = (n + k) + 1 by omega]
    conv => lhs; unfold mm_run
    rw [show mt.1[m]? = some (I, K) from he]
    dsimp only
    obtain ⟨pc, L, st, S, cu, su⟩ := c
    dsimp only at h ⊢
    cases ha : mm_at K pc with
    | none => rw [ha] at h; cases h
    | some q =>
      obtain ⟨ins, len, tgt⟩ := q
      rw [ha] at h
      dsimp only at h ⊢
      cases hs : mm_step mt X I ins len tgt (pc, L, st, S, cu, su) with
      | none => rw [hs] at h; cases h
      | some o =>
        rw [hs] at h
        rcases o with c3 | ⟨k2, as, pc9, L9, st9, S9, cu9, su9⟩ | ⟨v, S1⟩
        · exact ih c3 c2 h n r
        · cases h
        · cases h
section MWP
variable {X : Nat × (Nat → Int)} {I : mm_I} {K : mm_K} {m pc pc2 : Nat} {L L2 : mm_L} {st st2 r : List mm_V} {S S2 : mm_S} {mi mi2 : mm_M} {h h2 : mm_H} {Q : Option mm_V → mm_S → Prop}
/-- any steps that only go on -/
theorem mwp_steps (k : Nat) (he : mt_ents[m]? = some (I, K)) (hs : mm_stepsE X I K k (pc, L, st, S, 0, 0) = some (pc2, L2, st2, S2, 0, 0)) : mwp X m pc L st S Q = mwp X m pc2 L2 st2 S2 Q := by
  apply propext
  constructor
  · rintro ⟨n, v, S1, g1, g2⟩
    have g4 := mm_run_mono mt X n m _ _ g1 k
    exact ⟨n, v, S1, (mm_steps_run he k _ _ hs n _).mp g4, g2⟩
  · rintro ⟨n, v, S1, g1, g2⟩
    exact ⟨n + k, v, S1, (mm_steps_run he k _ _ hs n _).mpr g1, g2⟩
/-- a step under a condition -/
theorem mwp_stepC {c : Prop} {ins : Instr} {len tgt : Nat} (he : mt_ents[m]? = some (I, K)) (ha : mm_at K pc = some (ins, len, tgt)) (hc : c → mm_step mt X I ins len tgt (pc, L, st, S, 0, 0) = some (.inl (pc2, L2, st2, S2, 0, 0))) (hn : ¬ c → mm_step mt X I ins len tgt (pc, L, st, S, 0, 0) = none) : mwp X m pc L st S Q = (c ∧ mwp X m pc2 L2 st2 S2 Q) := by
  apply propext
  by_cases q : c
  · have hs : mm_stepsE X I K 1 (pc, L, st, S, 0, 0) = some (pc2, L2, st2, S2, 0, 0) := by
      unfold mm_stepsE
      dsimp only
      rw [ha]
      dsimp only
      rw [hc q]
      rfl
    rw [mwp_steps 1 he hs]
    exact ⟨fun z => ⟨q, z⟩, fun z => z.2⟩
  · constructor
    · rintro ⟨n, v, S1, g1, g2⟩
      exfalso
      cases n with
      | zero => cases g1
      | succ n =>
        unfold mm_run at g1
        rw [show mt.1[m]? = some (I, K) from he] at g1
        dsimp only at g1
        rw [ha] at g1
        dsimp only at g1
        rw [hn q] at g1
        cases g1
    · intro z
      exact absurd z.1 q
theorem mwp_ite {c : Prop} {dc : Decidable c} {x y : Nat} : mwp X m (if c then x else y) L st S Q = (if c then mwp X m x L st S Q else mwp X m y L st S Q) := by
  split <;> rfl
theorem mm_el_iff {mi : mm_M} {h : mm_H} {kd a n : Nat} {i : Int} (hs : mm_SH[a]? = some (kd, n)) : mm_el (mm_ms0 mi h) kd a i = true ↔ 0 ≤ i ∧ i < n := by
  unfold mm_el
  rw [show (mm_ms0 mi h).1[a]? = some (kd, n) from hs]
  simp
theorem mwp_iald {a n0 len tgt : Nat} {i n : Int} (he : mt_ents[m]? = some (I, K)) (ha : mm_at K pc = some (.iaload, len, tgt)) (hs : mm_SH[a]? = some (10, n0)) (hn : (n0 : Int) = n) : mwp X m pc L (.inl i :: .inr (some a) :: r) (mm_ms0 mi h) Q = ((0 ≤ i ∧ i < n) ∧ mwp X m (pc + len) L (.inl (mi a i.toNat) :: r) (mm_ms0 mi h) Q) := by
  subst hn
  exact mwp_stepC he ha (fun c => if_pos ((mm_el_iff hs).mpr c)) (fun c => if_neg (fun z => c ((mm_el_iff hs).mp z)))
theorem mwp_cald {a n0 len tgt : Nat} {i n : Int} (he : mt_ents[m]? = some (I, K)) (ha : mm_at K pc = some (.caload, len, tgt)) (hs : mm_SH[a]? = some (12, n0)) (hn : (n0 : Int) = n) : mwp X m pc L (.inl i :: .inr (some a) :: r) (mm_ms0 mi h) Q = ((0 ≤ i ∧ i < n) ∧ mwp X m (pc + len) L (.inl (mi a i.toNat) :: r) (mm_ms0 mi h) Q) := by
  subst hn
  exact mwp_stepC he ha (fun c => if_pos ((mm_el_iff hs).mpr c)) (fun c => if_neg (fun z => c ((mm_el_iff hs).mp z)))
theorem mwp_iast {a n0 len tgt : Nat} {i z n : Int} (he : mt_ents[m]? = some (I, K)) (ha : mm_at K pc = some (.iastore, len, tgt)) (hs : mm_SH[a]? = some (10, n0)) (hn : (n0 : Int) = n) : mwp X m pc L (.inl z :: .inl i :: .inr (some a) :: r) (mm_ms0 mi h) Q = ((0 ≤ i ∧ i < n) ∧ mwp X m (pc + len) L r (mm_ms0 (mm_up mi a i.toNat z) h) Q) := by
  subst hn
  exact mwp_stepC he ha (fun c => if_pos ((mm_el_iff hs).mpr c)) (fun c => if_neg (fun z => c ((mm_el_iff hs).mp z)))
theorem mwp_cast {a n0 len tgt : Nat} {i z n : Int} (he : mt_ents[m]? = some (I, K)) (ha : mm_at K pc = some (.castore, len, tgt)) (hs : mm_SH[a]? = some (12, n0)) (hn : (n0 : Int) = n) : mwp X m pc L (.inl z :: .inl i :: .inr (some a) :: r) (mm_ms0 mi h) Q = (((0 ≤ i ∧ i < n) ∧ 0 ≤ z ∧ z < 65536) ∧ mwp X m (pc + len) L r (mm_ms0 (mm_up mi a i.toNat z) h) Q) := by
  subst hn
  exact mwp_stepC he ha (fun c => if_pos ⟨(mm_el_iff hs).mpr c.1, c.2⟩) (fun c => if_neg (fun z => c ⟨(mm_el_iff hs).mp z.1, z.2⟩))
/-- the history's array -/
theorem mwp_aald {len tgt : Nat} {i : Int} (hl : h.length = 4) (he : mt_ents[m]? = some (I, K)) (ha : mm_at K pc = some (.aaload, len, tgt)) : mwp X m pc L (.inl i :: .inr (some 26) :: r) (mm_ms0 mi h) Q = ((0 ≤ i ∧ i < 4) ∧ mwp X m (pc + len) L (.inr (some (h.getD i.toNat 0)) :: r) (mm_ms0 mi h) Q) := by
  have hs : mm_SH[26]? = some (13, 4) := rfl
  refine mwp_stepC he ha (fun c => ?_) (fun c => if_neg (fun z => c (by have := (mm_el_iff hs).mp z; omega)))
  have h1 : mm_el (mm_ms0 mi h) 13 26 i = true := (mm_el_iff hs).mpr (by omega)
  have h2 : mm_mr h 26 i.toNat = some (h.getD i.toNat 0) := by
    show h[i.toNat]? = _
    rw [List.getD_eq_getElem?_getD, List.getElem?_eq_getElem (by omega)]
    rfl
  dsimp only [mm_step]
  rw [if_pos h1, show (mm_ms0 mi h).2.2 26 i.toNat = some (h.getD i.toNat 0) from h2]
  rfl
theorem mm_upr_mr {h : mm_H} {k x : Nat} (hk : k < h.length) : mm_upr (mm_mr h) 26 k x = mm_mr (h.set k x) := by
  funext a j
  unfold mm_upr mm_mr
  by_cases ha : a = 26
  · subst ha
    simp only [beq_self_eq_true, cond_true, if_true, List.getElem?_set]
    by_cases hj : j = k
    · subst hj
      simp [hk]
    · simp [hj, Ne.symm hj]
  · have h4 : (a == 26) = false := by simp [ha]
    simp [ha, h4]
theorem mwp_aast {len tgt x : Nat} {i : Int} (hl : h.length = 4) (he : mt_ents[m]? = some (I, K)) (ha : mm_at K pc = some (.aastore, len, tgt)) : mwp X m pc L (.inr (some x) :: .inl i :: .inr (some 26) :: r) (mm_ms0 mi h) Q = (((0 ≤ i ∧ i < 4) ∧ mm_isc (mm_ms0 mi h) 4 x = true) ∧ mwp X m (pc + len) L r (mm_ms0 mi (h.set i.toNat x)) Q) := by
  have hs : mm_SH[26]? = some (13, 4) := rfl
  refine mwp_stepC he ha (fun c => ?_) (fun c => if_neg (fun z => c ⟨by have := (mm_el_iff hs).mp z.1; omega, z.2⟩))
  have h1 : mm_el (mm_ms0 mi h) 13 26 i = true := (mm_el_iff hs).mpr (by omega)
  dsimp only [mm_step]
  rw [if_pos ⟨h1, c.2⟩]
  show mm_nx _ _ _ (mm_SH, mi, mm_upr (mm_mr h) 26 i.toNat x) _ _ = _
  rw [mm_upr_mr (by omega)]
  rfl
/-- ends -/
theorem mwp_end {v : Option mm_V} {ins : Instr} {len tgt : Nat} (he : mt_ents[m]? = some (I, K)) (ha : mm_at K pc = some (ins, len, tgt)) (hs : mm_step mt X I ins len tgt (pc, L, st, S, 0, 0) = some (.inr (.inr (v, S)))) : mwp X m pc L st S Q = Q v S := by
  apply propext
  have h1 : ∀ n, mm_run mt X (n + 1) m (pc, L, st, S, 0, 0) = some (v, S) := by
    intro n
    unfold mm_run
    rw [show mt.1[m]? = some (I, K) from he]
    dsimp only
    rw [ha]
    dsimp only
    rw [hs]
  constructor
  · rintro ⟨n, v1, S1, g1, g3⟩
    cases n with
    | zero => cases g1
    | succ n =>
      rw [h1 n] at g1
      cases g1
      exact g3
  · intro q
    exact ⟨1, v, S, h1 0, q⟩
theorem mwp_ret {z : Int} {len tgt : Nat} (he : mt_ents[m]? = some (I, K)) (ha : mm_at K pc = some (.ireturn, len, tgt)) (hm : mm_mc I = 0) (hb : mm_bool I = false) : mwp X m pc L [.inl z] S Q = Q (some (.inl z)) S :=
  mwp_end he ha (if_pos ⟨hm.symm, Or.inl hb⟩)
theorem mwp_retz {z : Int} {len tgt : Nat} (hz : z = 0 ∨ z = 1) (he : mt_ents[m]? = some (I, K)) (ha : mm_at K pc = some (.ireturn, len, tgt)) (hm : mm_mc I = 0) : mwp X m pc L [.inl z] S Q = Q (some (.inl z)) S :=
  mwp_end he ha (if_pos ⟨hm.symm, Or.inr hz⟩)
theorem mwp_retv {len tgt : Nat} (he : mt_ents[m]? = some (I, K)) (ha : mm_at K pc = some (.return_, len, tgt)) (hm : mm_mc I = 0) : mwp X m pc L [] S Q = Q none S :=
  mwp_end he ha (if_pos hm.symm)
/-- calls -/
theorem mwp_call {k len tgt : Nat} {ins : Instr} {as : List mm_V} {I2 : mm_I} {K2 : mm_K} (he : mt_ents[m]? = some (I, K)) (he2 : mt_ents[k]? = some (I2, K2)) (ha : mm_at K pc = some (ins, len, tgt)) (hs : mm_step mt X I ins len tgt (pc, L, st, S, 0, 0) = some (.inr (.inl (k, as, (pc2, L2, r, S, 0, 0))))) :
    mwp X m pc L st S Q = mcl X k as S (fun v S1 => mwp X m pc2 L2 (mm_psh v r) S1 Q) := by
  apply propext
  have hrun : ∀ n, mm_run mt X (n + 1) m (pc, L, st, S, 0, 0) = match mm_run mt X n k (0, mm_entry I2 as, [], S, 0, 0) with
      | none => none
      | some (v, S1) => mm_run mt X n m (pc2, L2, v.toList ++ r, S1, 0, 0) := by
    intro n
    conv => lhs; unfold mm_run
    rw [show mt.1[m]? = some (I, K) from he]
    dsimp only
    rw [ha]
    dsimp only
    rw [hs]
    dsimp only
    rw [show mt.1[k]? = some (I2, K2) from he2]
    rfl
  constructor
  · rintro ⟨n, v, S1, g1, g2⟩
    cases n with
    | zero => cases g1
    | succ n =>
      rw [hrun n] at g1
      cases hc : mm_run mt X n k (0, mm_entry I2 as, [], S, 0, 0) with
      | none => rw [hc] at g1; cases g1
      | some q =>
        obtain ⟨v2, S2⟩ := q
        rw [hc] at g1
        exact ⟨_, he2, n, v2, S2, hc, n, v, S1, g1, g2⟩
  · rintro ⟨e2, he3, n1, v1, S1, g1, n2, v2, S2, g4, g6⟩
    rw [he2] at he3
    cases he3
    refine ⟨n1 + n2 + 1, v2, S2, ?_, g6⟩
    rw [hrun, mm_run_mono mt X n1 k _ _ g1 n2]
    dsimp only
    rw [Nat.add_comm n1 n2]
    exact mm_run_mono mt X n2 m _ _ g4 n1
theorem mcl_in (he : mt_ents[m]? = some (I, K)) {as : List mm_V} (hl : mm_entry I as = L) : mcl X m as S Q = mwp X m 0 L [] S Q := by
  subst hl
  apply propext
  constructor
  · rintro ⟨e0, h1, h2⟩
    rw [he] at h1
    cases h1
    exact h2
  · intro h2
    exact ⟨_, he, h2⟩
end MWP
