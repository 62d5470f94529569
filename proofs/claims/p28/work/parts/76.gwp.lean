-- RUNS of the small machine at any shape: what the law needs before all objects stand
def gwp (X : Nat × (Nat → Int)) (m : Nat) (c : mm_C) (Q : Option mm_V → mm_S → Prop) : Prop := ∃ (n : Nat) (v : Option mm_V) (S1 : mm_S), mm_run mt X n m c = some (v, S1) ∧ Q v S1
section GW
variable {X : Nat × (Nat → Int)} {I I2 : mm_I} {K K2 : mm_K} {m : Nat} {c c2 : mm_C} {Q : Option mm_V → mm_S → Prop}
theorem gwp_steps (k : Nat) (he : mt_ents[m]? = some (I, K)) (hs : mm_stepsE X I K k c = some c2) (h : gwp X m c2 Q) : gwp X m c Q := by
  obtain ⟨n, v, S1, g1, g2⟩ := h
  exact ⟨n + k, v, S1, (mm_steps_run he k _ _ hs n _).mpr g1, g2⟩
/-- one step, which wants a condition -/
theorem gwp_step1 {ins : Instr} {len tgt pc cu su : Nat} {L : mm_L} {st : List mm_V} {S : mm_S} (he : mt_ents[m]? = some (I, K)) (ha : mm_at K pc = some (ins, len, tgt)) (hs : mm_step mt X I ins len tgt (pc, L, st, S, cu, su) = some (.inl c2)) (h : gwp X m c2 Q) : gwp X m (pc, L, st, S, cu, su) Q := by
  refine gwp_steps 1 he ?_ h
  unfold mm_stepsE
  dsimp only at ha ⊢
  rw [ha]
  dsimp only
  rw [hs]
  rfl
theorem gwp_call {k : Nat} {ins : Instr} {len tgt pc cu0 su0 pc2 cu su : Nat} {as : List mm_V} {L L2 : mm_L} {st r : List mm_V} {S0 S : mm_S} (he : mt_ents[m]? = some (I, K)) (he2 : mt_ents[k]? = some (I2, K2)) (ha : mm_at K pc = some (ins, len, tgt)) (hs : mm_step mt X I ins len tgt (pc, L, st, S0, cu0, su0) = some (.inr (.inl (k, as, (pc2, L2, r, S, cu, su)))))
    (h : gwp X k (0, mm_entry I2 as, [], S, 0, 0) (fun v S1 => gwp X m (pc2, L2, v.toList ++ r, S1, cu, su) Q)) : gwp X m (pc, L, st, S0, cu0, su0) Q := by
  obtain ⟨n1, v1, S1, g1, n2, v2, S2, g4, g6⟩ := h
  have hrun : ∀ n, mm_run mt X (n + 1) m (pc, L, st, S0, cu0, su0) = match mm_run mt X n k (0, mm_entry I2 as, [], S, 0, 0) with
      | none => none
      | some (v, S1) => mm_run mt X n m (pc2, L2, v.toList ++ r, S1, cu, su) := by
    intro n
    conv => lhs; unfold mm_run
    rw [show mt.1[m]? = some (I, K) from he]
    dsimp only
    rw [ha]
    dsimp only
    rw [hs]
    dsimp only
    rw [show mt.1[k]? = some (I2, K2) from he2]
    rfl
  refine ⟨n1 + n2 + 1, v2, S2, ?_, g6⟩
  rw [hrun, mm_run_mono mt X n1 k _ _ g1 n2]
  dsimp only
  rw [Nat.add_comm n1 n2]
  exact mm_run_mono mt X n2 m _ _ g4 n1
theorem gwp_end {v : Option mm_V} {S0 S : mm_S} {ins : Instr} {len tgt pc cu su : Nat} {L : mm_L} {st : List mm_V} (he : mt_ents[m]? = some (I, K)) (ha : mm_at K pc = some (ins, len, tgt)) (hs : mm_step mt X I ins len tgt (pc, L, st, S0, cu, su) = some (.inr (.inr (v, S)))) (h : Q v S) : gwp X m (pc, L, st, S0, cu, su) Q := by
  refine ⟨1, v, S, ?_, h⟩
  unfold mm_run
  rw [show mt.1[m]? = some (I, K) from he]
  dsimp only
  rw [ha]
  dsimp only
  rw [hs]
theorem gwp_retv {pc cu su len tgt : Nat} {L : mm_L} {S : mm_S} (he : mt_ents[m]? = some (I, K)) (ha : mm_at K pc = some (.return_, len, tgt)) (hc : cu = mm_mc I) (h : Q none S) : gwp X m (pc, L, [], S, cu, su) Q := gwp_end he ha (if_pos hc) h
theorem gwp_iast {pc cu su len tgt a : Nat} {i z : Int} {r : List mm_V} {L : mm_L} {S : mm_S} (he : mt_ents[m]? = some (I, K)) (ha : mm_at K pc = some (.iastore, len, tgt)) (hel : mm_el S 10 a i = true) (h : gwp X m (pc + len, L, r, (S.1, mm_up S.2.1 a i.toNat z, S.2.2), cu, su) Q) : gwp X m (pc, L, .inl z :: .inl i :: .inr (some a) :: r, S, cu, su) Q := gwp_step1 he ha (if_pos hel) h
/-- a call at the standing shape -/
theorem gwp_mcl {k : Nat} {as : List mm_V} {S : mm_S} (he2 : mt_ents[k]? = some (I2, K2)) (h : mcl X k as S Q) : gwp X k (0, mm_entry I2 as, [], S, 0, 0) Q := by
  obtain ⟨e0, h1, h2⟩ := h
  rw [he2] at h1
  cases h1
  exact h2
theorem mm_up_z {mi : mm_M} {a k : Nat} (h : mi a k = 0) : mm_up mi a k 0 = mi := by
  funext b j
  rw [mm_up_def]
  by_cases q : b = a
  · rw [if_pos q]
    by_cases q2 : j = k
    · rw [if_pos q2, q, q2, h]
    · rw [if_neg q2]
  · rw [if_neg q]
abbrev mm_Pt : Type := Nat → Nat → Option Nat
end GW
