-- THE MACHINE OF LONGS: the law's methods told, isAhead, law over the small machine, with longs below on the stack and in locals of their own
/-- a frame: that of the small machine, the longs below its stack, the longs in locals -/
abbrev ml_F : Type := mm_C × List Int64 × List (Nat × Int64)
def ml_cl (o i : Nat) : Option Int64 := bif o == 7 && i == 9 then some 7 else bif o == 7 && i == 11 then some 31 else none
def ml_ld : List (Nat × Int64) → Nat → Option Int64
  | [], _ => none
  | q :: r, i => bif q.1 == i then some q.2 else ml_ld r i
def ml_drop (i : Nat) (ll : List (Nat × Int64)) : List (Nat × Int64) := ll.filter (fun q => !(q.1 == i) && !(q.1 + 1 == i))
def ml_drop2 (i : Nat) (ll : List (Nat × Int64)) : List (Nat × Int64) := ll.filter (fun q => !(q.1 == i) && (!(q.1 == i + 1) && !(q.1 + 1 == i)))
def ml_ex (ins : Instr) (ll : List (Nat × Int64)) : List (Nat × Int64) := match ins with
  | .istore i => ml_drop i ll
  | .istore_n i => ml_drop i.val ll
  | .astore_n i => ml_drop i.val ll
  | .iinc i _ => ml_drop i ll
  | _ => ll
def ml_isl : Instr → Bool
  | .ldc2_w _ => true
  | .lload _ => true
  | .lload_n _ => true
  | .lstore _ => true
  | .lstore_n _ => true
  | .ladd => true
  | .lmul => true
  | .i2l => true
  | .lcmp => true
  | _ => false
def ml_isr : Instr → Bool
  | .lreturn => true
  | _ => false
def ml_step (I : mm_I) (ins : Instr) (len : Nat) : ml_F → Option ml_F
  | ((pc, L, st, S, cu, su), ks, ll) => match ins with
    | .ldc2_w i => match st, ml_cl (mm_own I) i with
      | [], some v => some ((pc + len, L, [], S, cu, su), v :: ks, ll)
      | _, _ => none
    | .lload i => match st, ml_ld ll i with
      | [], some v => some ((pc + len, L, [], S, cu, su), v :: ks, ll)
      | _, _ => none
    | .lload_n i => match st, ml_ld ll i.val with
      | [], some v => some ((pc + len, L, [], S, cu, su), v :: ks, ll)
      | _, _ => none
    | .lstore i => match st, ks with
      | [], v :: r => some ((pc + len, (L.set i none).set (i + 1) none, [], S, cu, su), r, (i, v) :: ml_drop2 i ll)
      | _, _ => none
    | .lstore_n i => match st, ks with
      | [], v :: r => some ((pc + len, (L.set i.val none).set (i.val + 1) none, [], S, cu, su), r, (i.val, v) :: ml_drop2 i.val ll)
      | _, _ => none
    | .ladd => match st, ks with
      | [], y :: x :: r => some ((pc + len, L, [], S, cu, su), (x + y) :: r, ll)
      | _, _ => none
    | .lmul => match st, ks with
      | [], y :: x :: r => some ((pc + len, L, [], S, cu, su), (x * y) :: r, ll)
      | _, _ => none
    | .i2l => match st with
      | [.inl z] => some ((pc + len, L, [], S, cu, su), (Int32.ofInt z).toInt64 :: ks, ll)
      | _ => none
    | .lcmp => match st, ks with
      | [], y :: x :: r => some ((pc + len, L, [.inl (lg_cmp x y).toInt], S, cu, su), r, ll)
      | _, _ => none
    | _ => none
def ml_call : Instr → Option Nat
  | .invokestatic i => match ml_fl ml_lk i with
    | some q => some q.1
    | none => none
  | _ => none
abbrev ml_A : Type := mm_V ⊕ Int64
def ml_run (X : Nat × (Nat → Int)) : Nat → Nat → ml_F → Option (ml_A × mm_S)
  | 0, _, _ => none
  | n + 1, k, ((pc, L, st, S, cu, su), ks, ll) => match ml_ents[k]? with
    | none => none
    | some e => match mm_at e.2 pc with
      | none => none
      | some (ins, len, tgt) => match ml_call ins with
        | some k1 => match ml_ents[k1]? with
          | none => none
          | some e1 => bif (Nat.ble (mm_nargs e1.1) st.length && Nat.ble ((st.drop (mm_nargs e1.1)).length + 2 * ks.length) 8 && mm_mc e1.1 == 0 && mm_ms e1.1 == 0) then
            (match ml_run X n k1 ((0, mm_entry e1.1 (st.take (mm_nargs e1.1)).reverse, [], S, 0, 0), [], []) with
            | none => none
            | some (.inl v, S1) => ml_run X n k ((pc + len, L, v :: st.drop (mm_nargs e1.1), S1, cu, su), ks, ll)
            | some (.inr v, S1) => match st.drop (mm_nargs e1.1) with
              | [] => ml_run X n k ((pc + len, L, [], S1, cu, su), v :: ks, ll)
              | _ => none) else none
        | none => bif ml_isl ins then (match ml_step e.1 ins len ((pc, L, st, S, cu, su), ks, ll) with
            | none => none
            | some F => ml_run X n k F)
          else bif ml_isr ins then (match st, ks with
            | [], [v] => if cu = mm_mc e.1 then some (.inr v, S) else none
            | _, _ => none)
          else match mm_step mt X e.1 ins len tgt (pc, L, st, S, cu, su) with
            | none => none
            | some (.inl C) => bif mm_plain ins then ml_run X n k (C, ks, ml_ex ins ll) else none
            | some (.inr (.inr (some v, S1))) => (match ks with
              | [] => some (.inl v, S1)
              | _ => none)
            | some (.inr (.inr (none, _))) => none
            | some (.inr (.inl (k1, as, pc2, L2, st2, S2, cu2, su2))) => bif Nat.ble (st2.length + 2 * ks.length) 8 then (match mt.1[k1]? with
              | none => none
              | some e1 => match mm_run mt X n k1 (0, mm_entry e1.1 as, [], S2, 0, 0) with
                | none => none
                | some (v1, S1) => ml_run X n k ((pc2, L2, v1.toList ++ st2, S1, cu2, su2), ks, ll)) else none
/-- the longs as values -/
def ml_exv (ll : List (Nat × Int64)) : List (Nat × Value) := ll.map (fun q => (q.1, Value.long q.2))
def ml_tlv (ks : List Int64) : List Value := ks.map Value.long
theorem ml_exf {i : Nat} {ll : List (Nat × Int64)} : mm_exf i (ml_exv ll) = ml_exv (ml_drop i ll) := by
  unfold mm_exf ml_exv ml_drop
  rw [List.filter_map]
  congr 1
  apply List.filter_congr
  intro q _
  show (!(q.1 == i) && !(q.1 + 1 == i && true)) = _
  rw [Bool.and_true]
theorem ml_exi {ins : Instr} {ll : List (Nat × Int64)} : mm_exi ins (ml_exv ll) = ml_exv (ml_ex ins ll) := by
  cases ins <;> first | rfl | exact ml_exf
theorem ml_tlv_sum (ks : List Int64) : ((ml_tlv ks).map fun v => v.category).sum = 2 * ks.length := by
  induction ks with
  | nil => rfl
  | cons k r ih =>
    have e : ml_tlv (k :: r) = .long k :: ml_tlv r := rfl
    rw [e, List.map_cons, List.sum_cons, ih, List.length_cons]
    show 2 + _ = _
    omega
theorem ml_ld_mem {ll : List (Nat × Int64)} {i : Nat} {v : Int64} (h : ml_ld ll i = some v) : (i, Value.long v) ∈ ml_exv ll := by
  induction ll with
  | nil => cases h
  | cons q r ih =>
    unfold ml_ld at h
    cases hq : (q.1 == i) with
    | true =>
      rw [hq] at h
      have h2 : q.2 = v := Option.some.inj h
      have h3 : q.1 = i := eq_of_beq hq
      rw [← h2, ← h3]
      exact List.mem_cons_self
    | false =>
      rw [hq] at h
      exact List.mem_cons_of_mem _ (ih h)
theorem ml_fine_mm {I : mm_I} {pc len tgt : Nat} {ins : Instr} (h1 : ml_call ins = none) (h2 : ml_isl ins = false) (hf : ml_fine I (pc, ins, len, tgt) = true) : mm_fine I (pc, ins, len, tgt) = true := by
  cases ins with
  | ireturn =>
    have hf : (len == 1 && decide (mm_ret I = some .boolean)) = true := hf
    show (len == 1 && decide (mm_ret I ≠ none)) = true
    simp only [Bool.and_eq_true, decide_eq_true_eq] at hf ⊢
    exact ⟨hf.1, by rw [hf.2]; decide⟩
  | lreturn =>
    have hf : (len == 1 && decide (mm_ret I = some .long)) = true := hf
    rw [Bool.and_eq_true] at hf
    exact hf.1
  | return_ => cases hf
  | invokestatic i =>
    unfold ml_fine at hf
    dsimp only at hf
    unfold ml_call at h1
    dsimp only at h1
    cases hl : ml_fl ml_lk i with
    | none => rw [hl] at hf; exact hf
    | some q => rw [hl] at h1; cases h1
  | _ => first | exact hf | (cases h2; done)
theorem ml_cl_in {o i : Nat} {v : Int64} (h : ml_cl o i = some v) : (Jvm.Cond.constantLong (mm_R o) i v) ∈ lw_u := by
  unfold ml_cl at h
  cases h1 : (o == 7 && i == 9) with
  | true =>
    rw [h1] at h
    cases h
    simp only [Bool.and_eq_true, beq_iff_eq] at h1
    rw [h1.1, h1.2]
    exact mm_wd_in (p := 329) (by decide +kernel)
  | false =>
    rw [h1] at h
    cases h2 : (o == 7 && i == 11) with
    | true =>
      rw [h2] at h
      cases h
      simp only [Bool.and_eq_true, beq_iff_eq] at h2
      rw [h2.1, h2.2]
      exact mm_wd_in (p := 330) (by decide +kernel)
    | false => rw [h2] at h; cases h
section MLS
variable {p : Program} {l : Launch} {e : Env} {R : Room} {s : State} {m : MethodId} {args : Array Value} {below : List Frame} {meth : Method} {c : Code} {H : Heap} {locs : List Loc} {Q : State → Prop}
variable {X : Nat × (Nat → Int)} {I : mm_I} {D : va_G} {cA : Nat → ClassId} {base b : Nat} {H00 : Heap} {pc len tgt : Nat} {L : mm_L} {st : List mm_V} {S : mm_S} {cu su : Nat} {ls : Array Slot} {ks : List Int64} {ll : List (Nat × Int64)} {F' : ml_F}
theorem ml_lv_set {i nL : Nat} {v : Int64} (h : lv_has ls nL ((i, Value.long v) :: (ml_exv ll ++ mm_prs base b L).filter (fun q => !(q.1 == i) && (!(q.1 == i + 1) && !(q.1 + 1 == i && q.2.category == 2))))) : lv_has ls nL (ml_exv ((i, v) :: ml_drop2 i ll) ++ mm_prs base b ((L.set i none).set (i + 1) none)) := by
  refine ⟨h.1, h.2.1, fun q hq => h.2.2 q ?_⟩
  rcases List.mem_append.mp hq with hq | hq
  · rcases List.mem_cons.mp hq with rfl | hq
    · exact List.mem_cons_self
    · obtain ⟨w, hw, rfl⟩ := List.mem_map.mp hq
      obtain ⟨h1, h2⟩ := List.mem_filter.mp hw
      refine List.mem_cons_of_mem _ (List.mem_filter.mpr ⟨List.mem_append_left _ (List.mem_map.mpr ⟨w, h1, rfl⟩), ?_⟩)
      show (!(w.1 == i) && (!(w.1 == i + 1) && !(w.1 + 1 == i && true))) = true
      rw [Bool.and_true]
      exact h2
  · obtain ⟨w, h1, h2⟩ := mm_prs_mem.mp hq
    unfold mm_ld at h1
    rw [List.getElem?_set] at h1
    by_cases e1 : i + 1 = q.1
    · rw [if_pos e1] at h1
      split at h1
      · rename_i hz
        split at hz
        · cases hz; cases h1
        · cases hz
      · cases h1
    · rw [if_neg e1, List.getElem?_set] at h1
      by_cases e2 : i = q.1
      · rw [if_pos e2] at h1
        split at h1
        · rename_i hz
          split at hz
          · cases hz; cases h1
          · cases hz
        · cases h1
      · rw [if_neg e2] at h1
        refine List.mem_cons_of_mem _ (List.mem_filter.mpr ⟨List.mem_append_right _ (mm_prs_mem.mpr ⟨w, h1, h2⟩), ?_⟩)
        rw [h2, mm_phi_cat]
        have g1 : (q.1 == i) = false := by simp; omega
        have g2 : (q.1 == i + 1) = false := by simp; omega
        rw [g1, g2]
        simp
theorem ml_ld_set {i j : Nat} {w : mm_V} (h : mm_ld ((L.set i none).set (i + 1) none) j = some w) : mm_ld L j = some w := by
  unfold mm_ld at h ⊢
  rw [List.getElem?_set] at h
  by_cases e1 : i + 1 = j
  · rw [if_pos e1] at h
    split at h
    · rename_i hz
      split at hz
      · cases hz; cases h
      · cases hz
    · cases h
  · rw [if_neg e1, List.getElem?_set] at h
    by_cases e2 : i = j
    · rw [if_pos e2] at h
      split at h
      · rename_i hz
        split at hz
        · cases hz; cases h
        · cases hz
      · cases h
    · rw [if_neg e2] at h
      exact h
/-- the walk from the next place on -/
def ml_kk (p : Program) (l : Launch) (e : Env) (R : Room) (s : State) (m : MethodId) (args : Array Value) (below : List Frame) (meth : Method) (c : Code) (Q : State → Prop) (I : mm_I) (D : va_G) (cA : Nat → ClassId) (base b : Nat) (H00 : Heap) (F' : ml_F) : Prop :=
  mm_kk p l e R s m args below meth c Q I D cA base b H00 (ml_exv F'.2.2) (ml_tlv F'.2.1) F'.1
set_option maxHeartbeats 4000000 in
theorem ml_go {ins : Instr} (hl9 : ml_isl ins = true) (hx : mm_Cx X I p R s m args meth c D cA base b H00) (hG : mm_G I s D cA base b H00 (ml_exv ll) L st S cu su ls H locs) (hd : decode (mm_bytes I) pc = .ok (ins, len)) (hf : ml_fine I (pc, ins, len, tgt) = true) (hs : ml_step I ins len ((pc, L, st, S, cu, su), ks, ll) = some F') (kk : ml_kk p l e R s m args below meth c Q I D cA base b H00 F') : W p l e R s m args below meth c H locs cu su Q (F0 m pc ls (st.map (mm_phi base b) ++ ml_tlv ks)) := by
  obtain ⟨hl, hst, hlr, hR, hn, hc, hsu⟩ := hG
  have nost : ∀ v ∈ ([] : List mm_V), mm_inr v := fun _ h => absurd h List.not_mem_nil
  cases ins with
  | ldc2_w i =>
    obtain rfl : len = 3 := eq_of_beq (show (len == 3) = true from hf)
    rcases st with _ | ⟨v0, r⟩ <;> try (cases (show (none : Option ml_F) = some F' from hs); done)
    dsimp only [ml_step] at hs
    cases hq : ml_cl (mm_own I) i with
    | none => rw [hq] at hs; cases hs
    | some v =>
      rw [hq] at hs
      cases hs
      exact lv_ldc2 hx.1 hx.2.1 hx.2.2.2.1 (hx.2.2.2.2.1 _ (ml_cl_in hq)) hd (kk ls H locs ⟨hl, nost, hlr, hR, hn, hc, hsu⟩)
  | lload i =>
    have hf : (len == 2 && Nat.blt (i + 1) (mm_maxL I)) = true := hf
    simp only [Bool.and_eq_true, beq_iff_eq] at hf
    obtain ⟨rfl, -⟩ := hf
    rcases st with _ | ⟨v0, r⟩ <;> try (cases (show (none : Option ml_F) = some F' from hs); done)
    dsimp only [ml_step] at hs
    cases hq : ml_ld ll i with
    | none => rw [hq] at hs; cases hs
    | some v =>
      rw [hq] at hs
      cases hs
      exact lv_lload hx.1 hx.2.1 hd (hl.2.2.2 _ (List.mem_append_left _ (ml_ld_mem hq))) (kk ls H locs ⟨hl, nost, hlr, hR, hn, hc, hsu⟩)
  | lload_n i =>
    have hf : (len == 1 && Nat.blt (i.val + 1) (mm_maxL I)) = true := hf
    simp only [Bool.and_eq_true, beq_iff_eq] at hf
    obtain ⟨rfl, -⟩ := hf
    rcases st with _ | ⟨v0, r⟩ <;> try (cases (show (none : Option ml_F) = some F' from hs); done)
    dsimp only [ml_step] at hs
    cases hq : ml_ld ll i.val with
    | none => rw [hq] at hs; cases hs
    | some v =>
      rw [hq] at hs
      cases hs
      exact lv_lload_n hx.1 hx.2.1 hd rfl (hl.2.2.2 _ (List.mem_append_left _ (ml_ld_mem hq))) (kk ls H locs ⟨hl, nost, hlr, hR, hn, hc, hsu⟩)
  | lstore i =>
    have hf : (len == 2 && Nat.blt (i + 1) (mm_maxL I)) = true := hf
    simp only [Bool.and_eq_true, beq_iff_eq] at hf
    obtain ⟨rfl, hi⟩ := hf
    have hi : i + 1 < mm_maxL I := Nat.le_of_ble_eq_true hi
    rcases st with _ | ⟨v0, r⟩ <;> try (cases (show (none : Option ml_F) = some F' from hs); done)
    rcases ks with _ | ⟨v, r⟩ <;> try (cases (show (none : Option ml_F) = some F' from hs); done)
    cases (show (some ((pc + 2, (L.set i none).set (i + 1) none, [], S, cu, su), r, (i, v) :: ml_drop2 i ll) : Option ml_F) = some F' from hs)
    exact lv_lstore hx.1 hx.2.1 hd hl.2 hi rfl (fun ls' hl' => kk ls' H locs ⟨⟨by rw [List.length_set, List.length_set]; exact hl.1, ml_lv_set hl'⟩, nost, fun j w hw => hlr _ _ (ml_ld_set hw), hR, hn, hc, hsu⟩)
  | lstore_n i =>
    have hf : (len == 1 && Nat.blt (i.val + 1) (mm_maxL I)) = true := hf
    simp only [Bool.and_eq_true, beq_iff_eq] at hf
    obtain ⟨rfl, hi⟩ := hf
    have hi : i.val + 1 < mm_maxL I := Nat.le_of_ble_eq_true hi
    rcases st with _ | ⟨v0, r⟩ <;> try (cases (show (none : Option ml_F) = some F' from hs); done)
    rcases ks with _ | ⟨v, r⟩ <;> try (cases (show (none : Option ml_F) = some F' from hs); done)
    cases (show (some ((pc + 1, (L.set i.val none).set (i.val + 1) none, [], S, cu, su), r, (i.val, v) :: ml_drop2 i.val ll) : Option ml_F) = some F' from hs)
    exact lv_lstore_n hx.1 hx.2.1 hd rfl hl.2 hi rfl (fun ls' hl' => kk ls' H locs ⟨⟨by rw [List.length_set, List.length_set]; exact hl.1, ml_lv_set hl'⟩, nost, fun j w hw => hlr _ _ (ml_ld_set hw), hR, hn, hc, hsu⟩)
  | ladd =>
    obtain rfl : len = 1 := eq_of_beq (show (len == 1) = true from hf)
    rcases st with _ | ⟨v0, r⟩ <;> try (cases (show (none : Option ml_F) = some F' from hs); done)
    rcases ks with _ | ⟨y, _ | ⟨x, r⟩⟩ <;> try (cases (show (none : Option ml_F) = some F' from hs); done)
    cases (show (some ((pc + 1, L, [], S, cu, su), (x + y) :: r, ll) : Option ml_F) = some F' from hs)
    exact lv_ladd hx.1 hx.2.1 hd (kk ls H locs ⟨hl, nost, hlr, hR, hn, hc, hsu⟩)
  | lmul =>
    obtain rfl : len = 1 := eq_of_beq (show (len == 1) = true from hf)
    rcases st with _ | ⟨v0, r⟩ <;> try (cases (show (none : Option ml_F) = some F' from hs); done)
    rcases ks with _ | ⟨y, _ | ⟨x, r⟩⟩ <;> try (cases (show (none : Option ml_F) = some F' from hs); done)
    cases (show (some ((pc + 1, L, [], S, cu, su), (x * y) :: r, ll) : Option ml_F) = some F' from hs)
    exact lv_lmul hx.1 hx.2.1 hd (kk ls H locs ⟨hl, nost, hlr, hR, hn, hc, hsu⟩)
  | i2l =>
    obtain rfl : len = 1 := eq_of_beq (show (len == 1) = true from hf)
    rcases st with _ | ⟨z | a, _ | ⟨v1, r⟩⟩ <;> try (cases (show (none : Option ml_F) = some F' from hs); done)
    cases (show (some ((pc + 1, L, [], S, cu, su), (Int32.ofInt z).toInt64 :: ks, ll) : Option ml_F) = some F' from hs)
    exact lv_i2l hx.1 hx.2.1 hd rfl (kk ls H locs ⟨hl, nost, hlr, hR, hn, hc, hsu⟩)
  | lcmp =>
    obtain rfl : len = 1 := eq_of_beq (show (len == 1) = true from hf)
    rcases st with _ | ⟨v0, r⟩ <;> try (cases (show (none : Option ml_F) = some F' from hs); done)
    rcases ks with _ | ⟨y, _ | ⟨x, r⟩⟩ <;> try (cases (show (none : Option ml_F) = some F' from hs); done)
    cases (show (some ((pc + 1, L, [.inl (lg_cmp x y).toInt], S, cu, su), r, ll) : Option ml_F) = some F' from hs)
    have hk : W p l e R s m args below meth c H locs cu su Q (F0 m (pc + 1) ls (.int (Int32.ofInt (lg_cmp x y).toInt) :: ml_tlv r)) := kk ls H locs ⟨hl, mm_all_cons (mm_i32_in _) nost, hlr, hR, hn, hc, hsu⟩
    rw [Int32.ofInt_toInt] at hk
    exact W.lcmp hx.1 hx.2.1 hd hk
  | _ => cases hl9
end MLS
