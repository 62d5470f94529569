-- RUNS of the machine of longs
/-- one step that only goes on -/
def ml_one (X : Nat × (Nat → Int)) (I : mm_I) (K : mm_K) : ml_F → Option ml_F
  | ((pc, L, st, S, cu, su), ks, ll) => match mm_at K pc with
    | none => none
    | some (ins, len, tgt) => match ml_call ins with
      | some _ => none
      | none => bif ml_isl ins then ml_step I ins len ((pc, L, st, S, cu, su), ks, ll) else bif ml_isr ins then none else match mm_step mt X I ins len tgt (pc, L, st, S, cu, su) with
        | some (.inl C) => bif mm_plain ins then some (C, ks, ml_ex ins ll) else none
        | _ => none
def ml_many (X : Nat × (Nat → Int)) (I : mm_I) (K : mm_K) : Nat → ml_F → Option ml_F
  | 0, F => some F
  | n + 1, F => match ml_one X I K F with
    | none => none
    | some F2 => ml_many X I K n F2
def lwp (X : Nat × (Nat → Int)) (k : Nat) (F : ml_F) (Q : ml_A → mm_S → Prop) : Prop := ∃ (n : Nat) (v : ml_A) (S1 : mm_S), ml_run X n k F = some (v, S1) ∧ Q v S1
section ML
variable {X : Nat × (Nat → Int)} {I I1 : mm_I} {K K1 : mm_K} {k k1 : Nat} {F F2 : ml_F} {Q Q2 : ml_A → mm_S → Prop}
theorem lwp_mono (h : lwp X k F Q) (hq : ∀ v S1, Q v S1 → Q2 v S1) : lwp X k F Q2 := by
  obtain ⟨n, v, S1, h1, h2⟩ := h
  exact ⟨n, v, S1, h1, hq v S1 h2⟩
set_option maxHeartbeats 4000000 in
theorem ml_run_mono : ∀ (n k : Nat) (C : ml_F) (r : ml_A × mm_S), ml_run X n k C = some r → ∀ d, ml_run X (n + d) k C = some r := by
  intro n
  induction n with
  | zero => intro k C r h; cases h
  | succ n ih =>
    intro k C r h d
    rw [show n + 1 + d = (n + d) + 1 by omega]
    obtain ⟨⟨pc, L, st, S, cu, su⟩, ks, ll⟩ := C
    unfold ml_run at h ⊢
    cases hk : ml_ents[k]? with
    | none => rw [hk] at h; cases h
    | some e1 =>
      rw [hk] at h
      dsimp only at h ⊢
      cases ha : mm_at e1.2 pc with
      | none => rw [ha] at h; cases h
      | some q =>
        obtain ⟨ins, len, tgt⟩ := q
        rw [ha] at h
        dsimp only at h ⊢
        cases hc : ml_call ins with
        | some k1 =>
          rw [hc] at h
          dsimp only at h ⊢
          cases hk1 : ml_ents[k1]? with
          | none => rw [hk1] at h; cases h
          | some e2 =>
            rw [hk1] at h
            dsimp only at h ⊢
            cases hb : (Nat.ble (mm_nargs e2.1) st.length && Nat.ble ((st.drop (mm_nargs e2.1)).length + 2 * ks.length) 8 && mm_mc e2.1 == 0 && mm_ms e2.1 == 0) with
            | false => rw [hb] at h; cases h
            | true =>
              rw [hb] at h
              dsimp only [cond_true] at h ⊢
              cases hr : ml_run X n k1 ((0, mm_entry e2.1 (st.take (mm_nargs e2.1)).reverse, [], S, 0, 0), [], []) with
              | none => rw [hr] at h; cases h
              | some q =>
                have hr2 := ih k1 _ q hr d
                obtain ⟨v2 | v2, S2⟩ := q
                · rw [hr] at h
                  rw [hr2]
                  exact ih k _ r h d
                · rw [hr] at h
                  rw [hr2]
                  dsimp only at h ⊢
                  cases hd : st.drop (mm_nargs e2.1) with
                  | nil => rw [hd] at h; exact ih k _ r h d
                  | cons a r => rw [hd] at h; cases h
        | none =>
          rw [hc] at h
          dsimp only at h ⊢
          cases hl : ml_isl ins with
          | true =>
            rw [hl] at h
            dsimp only [cond_true] at h ⊢
            cases hs : ml_step e1.1 ins len ((pc, L, st, S, cu, su), ks, ll) with
            | none => rw [hs] at h; cases h
            | some F => rw [hs] at h; exact ih k _ r h d
          | false =>
            rw [hl] at h
            dsimp only [cond_false] at h ⊢
            cases hr : ml_isr ins with
            | true => rw [hr] at h; exact h
            | false =>
              rw [hr] at h
              dsimp only [cond_false] at h ⊢
              cases hs : mm_step mt X e1.1 ins len tgt (pc, L, st, S, cu, su) with
              | none => rw [hs] at h; cases h
              | some o =>
                rw [hs] at h
                rcases o with C' | ⟨k1, as, pc2, L2, st2, S2, cu2, su2⟩ | ⟨vv, SS⟩
                · dsimp only at h ⊢
                  cases hp : mm_plain ins with
                  | true => rw [hp] at h; exact ih k _ r h d
                  | false => rw [hp] at h; cases h
                · dsimp only at h ⊢
                  cases hb : Nat.ble (st2.length + 2 * ks.length) 8 with
                  | false => rw [hb] at h; cases h
                  | true =>
                    rw [hb] at h
                    dsimp only [cond_true] at h ⊢
                    cases hk1 : mt.1[k1]? with
                    | none => rw [hk1] at h; cases h
                    | some e2 =>
                      rw [hk1] at h
                      dsimp only at h ⊢
                      cases hr1 : mm_run mt X n k1 (0, mm_entry e2.1 as, [], S2, 0, 0) with
                      | none => rw [hr1] at h; cases h
                      | some q =>
                        rw [hr1] at h
                        rw [mm_run_mono mt X n k1 _ _ hr1 d]
                        exact ih k _ r h d
                · rcases vv with _ | vv
                  · cases h
                  · exact h
theorem ml_run_one (he : ml_ents[k]? = some (I, K)) (h : ml_one X I K F = some F2) (n : Nat) : ml_run X (n + 1) k F = ml_run X n k F2 := by
  obtain ⟨⟨pc, L, st, S, cu, su⟩, ks, ll⟩ := F
  conv => lhs; unfold ml_run
  unfold ml_one at h
  rw [he]
  dsimp only at h ⊢
  cases ha : mm_at K pc with
  | none => rw [ha] at h; cases h
  | some q =>
    obtain ⟨ins, len, tgt⟩ := q
    rw [ha] at h
    dsimp only at h ⊢
    cases hc : ml_call ins with
    | some k1 => rw [hc] at h; cases h
    | none =>
      rw [hc] at h
      dsimp only at h ⊢
      cases hl : ml_isl ins with
      | true =>
        rw [hl] at h
        dsimp only [cond_true] at h ⊢
        rw [h]
      | false =>
        rw [hl] at h
        dsimp only [cond_false] at h ⊢
        cases hr : ml_isr ins with
        | true => rw [hr] at h; cases h
        | false =>
          rw [hr] at h
          dsimp only [cond_false] at h ⊢
          cases hs : mm_step mt X I ins len tgt (pc, L, st, S, cu, su) with
          | none => rw [hs] at h; cases h
          | some o =>
            rw [hs] at h
            rcases o with C' | o
            · dsimp only at h ⊢
              cases hp : mm_plain ins with
              | true => rw [hp] at h; cases h; rfl
              | false => rw [hp] at h; cases h
            · cases h
theorem lwp_many : ∀ (j : Nat) {F : ml_F}, ml_ents[k]? = some (I, K) → ml_many X I K j F = some F2 → lwp X k F2 Q → lwp X k F Q := by
  intro j
  induction j with
  | zero => intro F he h hq; cases h; exact hq
  | succ j ih =>
    intro F he h hq
    unfold ml_many at h
    cases h1 : ml_one X I K F with
    | none => rw [h1] at h; cases h
    | some F3 =>
      rw [h1] at h
      obtain ⟨n, v, S1, g1, g2⟩ := ih he h hq
      exact ⟨n + 1, v, S1, by rw [ml_run_one he h1]; exact g1, g2⟩
theorem lwp_call {ins : Instr} {len tgt pc cu su pc2 cu2 su2 : Nat} {L L2 : mm_L} {st st2 as : List mm_V} {S S2 : mm_S} {ks : List Int64} {ll : List (Nat × Int64)} (he : ml_ents[k]? = some (I, K)) (he1 : mt_ents[k1]? = some (I1, K1)) (ha : mm_at K pc = some (ins, len, tgt)) (hc : ml_call ins = none) (hl : ml_isl ins = false) (hr : ml_isr ins = false) (hs : mm_step mt X I ins len tgt (pc, L, st, S, cu, su) = some (.inr (.inl (k1, as, pc2, L2, st2, S2, cu2, su2)))) (hb : Nat.ble (st2.length + 2 * ks.length) 8 = true)
    (h : gwp X k1 (0, mm_entry I1 as, [], S2, 0, 0) (fun v S1 => lwp X k ((pc2, L2, v.toList ++ st2, S1, cu2, su2), ks, ll) Q)) : lwp X k ((pc, L, st, S, cu, su), ks, ll) Q := by
  obtain ⟨n1, v1, S1, g1, n2, v2, S3, g4, g6⟩ := h
  refine ⟨n1 + n2 + 1, v2, S3, ?_, g6⟩
  unfold ml_run
  rw [he]
  dsimp only
  rw [ha]
  dsimp only
  rw [hc]
  dsimp only
  rw [hl, hr]
  dsimp only [cond_false]
  rw [hs]
  dsimp only
  rw [hb]
  dsimp only [cond_true]
  rw [show mt.1[k1]? = some (I1, K1) from he1]
  dsimp only
  rw [mm_run_mono mt X n1 k1 _ _ g1 n2]
  dsimp only
  rw [Nat.add_comm n1 n2]
  exact ml_run_mono n2 k _ _ g4 n1
/-- a call of a method of longs that gives an int, or a long -/
theorem lwp_callI {i len tgt pc cu su : Nat} {L : mm_L} {st : List mm_V} {S : mm_S} {ks : List Int64} {ll : List (Nat × Int64)} (he : ml_ents[k]? = some (I, K)) (he1 : ml_ents[k1]? = some (I1, K1)) (ha : mm_at K pc = some (.invokestatic i, len, tgt)) (hc : ml_call (.invokestatic i) = some k1) (hb : (Nat.ble (mm_nargs I1) st.length && Nat.ble ((st.drop (mm_nargs I1)).length + 2 * ks.length) 8 && mm_mc I1 == 0 && mm_ms I1 == 0) = true)
    (h : lwp X k1 ((0, mm_entry I1 (st.take (mm_nargs I1)).reverse, [], S, 0, 0), [], []) (fun v S1 => ∃ z, v = .inl z ∧ lwp X k ((pc + len, L, z :: st.drop (mm_nargs I1), S1, cu, su), ks, ll) Q)) : lwp X k ((pc, L, st, S, cu, su), ks, ll) Q := by
  obtain ⟨n1, v1, S1, g1, z, rfl, n2, v2, S3, g4, g6⟩ := h
  refine ⟨n1 + n2 + 1, v2, S3, ?_, g6⟩
  unfold ml_run
  rw [he]
  dsimp only
  rw [ha]
  dsimp only
  rw [hc]
  dsimp only
  rw [he1]
  dsimp only
  rw [hb]
  dsimp only [cond_true]
  rw [ml_run_mono n1 k1 _ _ g1 n2]
  dsimp only
  rw [Nat.add_comm n1 n2]
  exact ml_run_mono n2 k _ _ g4 n1
theorem lwp_callL {i len tgt pc cu su : Nat} {L : mm_L} {st : List mm_V} {S : mm_S} {ks : List Int64} {ll : List (Nat × Int64)} (he : ml_ents[k]? = some (I, K)) (he1 : ml_ents[k1]? = some (I1, K1)) (ha : mm_at K pc = some (.invokestatic i, len, tgt)) (hc : ml_call (.invokestatic i) = some k1) (hb : (Nat.ble (mm_nargs I1) st.length && Nat.ble ((st.drop (mm_nargs I1)).length + 2 * ks.length) 8 && mm_mc I1 == 0 && mm_ms I1 == 0) = true) (hn : st.drop (mm_nargs I1) = [])
    (h : lwp X k1 ((0, mm_entry I1 (st.take (mm_nargs I1)).reverse, [], S, 0, 0), [], []) (fun v S1 => ∃ z, v = .inr z ∧ lwp X k ((pc + len, L, [], S1, cu, su), z :: ks, ll) Q)) : lwp X k ((pc, L, st, S, cu, su), ks, ll) Q := by
  obtain ⟨n1, v1, S1, g1, z, rfl, n2, v2, S3, g4, g6⟩ := h
  refine ⟨n1 + n2 + 1, v2, S3, ?_, g6⟩
  unfold ml_run
  rw [he]
  dsimp only
  rw [ha]
  dsimp only
  rw [hc]
  dsimp only
  rw [he1]
  dsimp only
  rw [hb]
  dsimp only [cond_true]
  rw [ml_run_mono n1 k1 _ _ g1 n2]
  dsimp only
  rw [hn]
  dsimp only
  rw [Nat.add_comm n1 n2]
  exact ml_run_mono n2 k _ _ g4 n1
theorem lwp_lret {len tgt pc cu su : Nat} {L : mm_L} {S : mm_S} {z : Int64} {ll : List (Nat × Int64)} (he : ml_ents[k]? = some (I, K)) (ha : mm_at K pc = some (.lreturn, len, tgt)) (hm : cu = mm_mc I) (h : Q (.inr z) S) : lwp X k ((pc, L, [], S, cu, su), [z], ll) Q := by
  refine ⟨1, _, _, ?_, h⟩
  unfold ml_run
  rw [he]
  dsimp only
  rw [ha]
  exact if_pos hm
theorem lwp_iret {len tgt pc cu su : Nat} {L : mm_L} {S : mm_S} {z : Int} {ll : List (Nat × Int64)} (he : ml_ents[k]? = some (I, K)) (ha : mm_at K pc = some (.ireturn, len, tgt)) (hm : cu = mm_mc I) (hz : mm_bool I = false ∨ z = 0 ∨ z = 1) (h : Q (.inl (.inl z)) S) : lwp X k ((pc, L, [.inl z], S, cu, su), [], ll) Q := by
  refine ⟨1, _, _, ?_, h⟩
  unfold ml_run
  rw [he]
  dsimp only
  rw [ha]
  dsimp only
  have hs : mm_step mt X I .ireturn len tgt (pc, L, [.inl z], S, cu, su) = some (.inr (.inr (some (.inl z), S))) := if_pos ⟨hm, hz⟩
  show (match mm_step mt X I .ireturn len tgt (pc, L, [.inl z], S, cu, su) with
            | none => none
            | some (.inl C) => bif mm_plain .ireturn then ml_run X 0 k (C, [], ml_ex .ireturn ll) else none
            | some (.inr (.inr (some v, S1))) => (match ([] : List Int64) with
              | [] => some (.inl v, S1)
              | _ => none)
            | some (.inr (.inr (none, _))) => none
            | some (.inr (.inl (k1, as, pc2, L2, st2, S2, cu2, su2))) => bif Nat.ble (st2.length + 2 * ([] : List Int64).length) 8 then (match mt.1[k1]? with
              | none => none
              | some e1 => match mm_run mt X 0 k1 (0, mm_entry e1.1 as, [], S2, 0, 0) with
                | none => none
                | some (v1, S1) => ml_run X 0 k ((pc2, L2, v1.toList ++ st2, S1, cu2, su2), [], ll)) else none) = _
  rw [hs]
theorem lwp_ite {c : Prop} {dc : Decidable c} {x y cu su : Nat} {L : mm_L} {st : List mm_V} {S : mm_S} {ks : List Int64} {ll : List (Nat × Int64)} (h1 : c → lwp X k ((x, L, st, S, cu, su), ks, ll) Q) (h2 : ¬ c → lwp X k ((y, L, st, S, cu, su), ks, ll) Q) : lwp X k ((if c then x else y, L, st, S, cu, su), ks, ll) Q := by
  by_cases q : c
  · rw [if_pos q]; exact h1 q
  · rw [if_neg q]; exact h2 q
end ML
