-- STEPS that read and write cells, and those that make them
theorem mm_ff_mem {l : mm_FL} {i : Nat} {x : Nat × Nat × Nat × Bool × Nat} (h : mm_ff l i = some x) : (i, x) ∈ l := by
  induction l with
  | nil => cases h
  | cons q r ih =>
    unfold mm_ff at h
    cases hq : (q.1 == i) with
    | true =>
      rw [hq] at h
      have h2 : q.2 = x := Option.some.inj h
      have h3 : q.1 = i := eq_of_beq hq
      rw [← h2, ← h3]
      exact List.mem_cons_self
    | false =>
      rw [hq] at h
      exact List.mem_cons_of_mem _ (ih h)
theorem mm_fm_mem {l : mm_ML} {i : Nat} {x : Nat × Nat × List Nat} (h : mm_fm l i = some x) : (i, x) ∈ l := by
  induction l with
  | nil => cases h
  | cons q r ih =>
    unfold mm_fm at h
    cases hq : (q.1 == i) with
    | true =>
      rw [hq] at h
      have h2 : q.2 = x := Option.some.inj h
      have h3 : q.1 = i := eq_of_beq hq
      rw [← h2, ← h3]
      exact List.mem_cons_self
    | false =>
      rw [hq] at h
      exact List.mem_cons_of_mem _ (ih h)
theorem mm_fn_mem {l : mm_NL} {i : Nat} {x : Nat × List Nat} (h : mm_fn l i = some x) : (i, x) ∈ l := by
  induction l with
  | nil => cases h
  | cons q r ih =>
    unfold mm_fn at h
    cases hq : (q.1 == i) with
    | true =>
      rw [hq] at h
      have h2 : q.2 = x := Option.some.inj h
      have h3 : q.1 = i := eq_of_beq hq
      rw [← h2, ← h3]
      exact List.mem_cons_self
    | false =>
      rw [hq] at h
      exact List.mem_cons_of_mem _ (ih h)
theorem mm_getD_mem {α : Type} {l : List (List α)} {o : Nat} {x : α} (h : x ∈ l.getD o []) : o < l.length := by
  rcases Nat.lt_or_ge o l.length with q | q
  · exact q
  · rw [List.getD_eq_getElem?_getD, List.getElem?_eq_none q] at h
    cases h
def mm_refty : FieldType → Bool
  | .object _ => true
  | .array _ => true
  | _ => false
/-- what is known of a field that a link names -/
theorem mm_fld {o i ci k kd pl : Nat} {fin : Bool} (h : mm_ff (mt.2.1.getD o []) i = some (ci, k, kd, fin, pl)) : ∃ (C : String) (T : u_T) (N : Nat), classes[ci]? = some (C, T, N) ∧ k < N ∧ (Jvm.Cond.fieldLink (mm_R o) i (T k).1 (T k).2.1 (T k).2.2.1) ∈ lw_u ∧ (T k).2.2.2 = fin ∧ (T k).1 = C ∧ ((T k).2.2.1 = "I" ∧ kd = 0 ∨ (T k).2.2.1 = "Z" ∧ kd = 1 ∨ ((T k).2.2.1 ≠ "I" ∧ (T k).2.2.1 ≠ "Z") ∧ kd = 2) := by
  have hm := mm_ff_mem h
  have ho : o < 9 := mm_getD_mem hm
  have h1 := mt_okF
  unfold mm_okFL at h1
  have h2 := List.all_eq_true.mp (List.all_eq_true.mp h1 o (List.mem_range.mpr ho)) _ hm
  dsimp only at h2
  cases hc : classes[ci]? with
  | none => rw [hc] at h2; cases h2
  | some q =>
    obtain ⟨C, T, N⟩ := q
    rw [hc] at h2
    simp only [Bool.and_eq_true, decide_eq_true_eq] at h2
    obtain ⟨⟨⟨⟨h3, h4⟩, h5⟩, h6⟩, h7⟩ := h2
    exact ⟨C, T, N, rfl, Nat.le_of_ble_eq_true h3, mm_wd_in h4, h5, h6, h7⟩
/-- what is known of a class -/
theorem mm_cl {ci : Nat} {C : String} {T : u_T} {N : Nat} (h : classes[ci]? = some (C, T, N)) : (∃ ty0 : Nat → FieldType, (∀ k, k < N → parseFieldDescriptor (T k).2.2.1 = some (ty0 k)) ∧ ∀ k, k < N → (T k).2.2.1 = "I" ∧ ty0 k = .int ∨ (T k).2.2.1 = "Z" ∧ ty0 k = .boolean ∨ ((T k).2.2.1 ≠ "I" ∧ (T k).2.2.1 ≠ "Z") ∧ mm_refty (ty0 k) = true) ∧ (∀ a, a < N → ∀ b, b < N → a ≠ b → (T a).2.1 ≠ (T b).2.1) ∧ (∀ w ∈ u_ws C T N, w ∈ lw_u) := by
  rcases ci with _ | _ | _ | _ | _ | _ | _ | ci
  · cases h; exact ⟨⟨tyX0, tyX0_ok, by decide +kernel⟩, nmX0, inX0⟩
  · cases h; exact ⟨⟨tyX1, tyX1_ok, by decide +kernel⟩, nmX1, inX1⟩
  · cases h; exact ⟨⟨tyX2, tyX2_ok, by decide +kernel⟩, nmX2, inX2⟩
  · cases h; exact ⟨⟨tyX3, tyX3_ok, by decide +kernel⟩, nmX3, inX3⟩
  · cases h; exact ⟨⟨tyX4, tyX4_ok, by decide +kernel⟩, nmX4, inX4⟩
  · cases h; exact ⟨⟨tyX5, tyX5_ok, by decide +kernel⟩, nmX5, inX5⟩
  · cases h; exact ⟨⟨tyX6, tyX6_ok, by decide +kernel⟩, nmX6, inX6⟩
  · exact absurd h (by simp [classes])
theorem mm_isref_of {ci k kd : Nat} {C : String} {T : u_T} {N : Nat} (h : classes[ci]? = some (C, T, N)) (hk : (T k).2.2.1 = "I" ∧ kd = 0 ∨ (T k).2.2.1 = "Z" ∧ kd = 1 ∨ ((T k).2.2.1 ≠ "I" ∧ (T k).2.2.1 ≠ "Z") ∧ kd = 2) : mm_isref ci k = true ↔ kd = 2 := by
  unfold mm_isref
  rw [h]
  rcases hk with ⟨h1, h2⟩ | ⟨h1, h2⟩ | ⟨⟨h1, h3⟩, h2⟩
  · subst h2; simp [h1]
  · subst h2; simp [h1]
  · subst h2; simp [h1, h3]
theorem mm_isc_at {S : mm_S} {ci a : Nat} (h : mm_isc S ci a = true) : ∃ n, S.1[a]? = some (ci, n) := by
  unfold mm_isc at h
  cases hq : S.1[a]? with
  | none => rw [hq] at h; cases h
  | some q =>
    rw [hq] at h
    obtain ⟨k, n⟩ := q
    exact ⟨n, by rw [eq_of_beq h]⟩
theorem mm_el_at {S : mm_S} {kd a : Nat} {i : Int} (h : mm_el S kd a i = true) : ∃ n : Nat, S.1[a]? = some (kd, n) ∧ 0 ≤ i ∧ i < n := by
  unfold mm_el at h
  cases hq : S.1[a]? with
  | none => rw [hq] at h; cases h
  | some q =>
    rw [hq] at h
    obtain ⟨k, n⟩ := q
    simp only [Bool.and_eq_true, beq_iff_eq, decide_eq_true_eq] at h
    exact ⟨n, by rw [h.1.1], h.1.2, h.2⟩
theorem mm_map_set {n k : Nat} {v : Value} {f g : Nat → Value} (hk : g k = v) (ho : ∀ j, j ≠ k → g j = f j) : ((List.range n).map f).set k v = (List.range n).map g := by
  apply List.ext_getElem?
  intro i
  rw [List.getElem?_set]
  by_cases hi : k = i
  · subst hi
    rw [if_pos rfl]
    by_cases hl : k < n
    · simp [hl, hk]
    · simp [hl]
  · rw [if_neg hi, List.getElem?_map, List.getElem?_map]
    by_cases hl : i < n
    · rw [List.getElem?_range hl]
      simp only [Option.map_some, ho i (fun q => hi q.symm)]
    · rw [List.getElem?_eq_none (by simpa using hl)]
      rfl
section MMH
variable {p : Program} {l : Launch} {e : Env} {R : Room} {s : State} {m : MethodId} {args : Array Value} {below : List Frame} {meth : Method} {c : Code} {H : Heap} {locs : List Loc} {Q : State → Prop}
variable {X : Nat × (Nat → Int)} {I : mm_I} {D : va_G} {cA : Nat → ClassId} {base b : Nat} {H00 : Heap} {pc len tgt : Nat} {L : mm_L} {st : List mm_V} {S : mm_S} {cu su : Nat} {ls : Array Slot} {C' : mm_C} {ex : List (Nat × Value)} {tl : List Value}
theorem mm_s_getfield {i : Nat} (hx : mm_Cx X I p R s m args meth c D cA base b H00) (hG : mm_G I s D cA base b H00 ex L st S cu su ls H locs) (hd : decode (mm_bytes I) pc = .ok (.getfield i, len)) (hf : mm_fine I (pc, .getfield i, len, tgt) = true) (hs : mm_step mt X I (.getfield i) len tgt (pc, L, st, S, cu, su) = some (.inl C')) (kk : mm_kk p l e R s m args below meth c Q I D cA base b H00 (mm_exi (.getfield i) ex) tl C') : W p l e R s m args below meth c H locs cu su Q (F0 m pc ls (st.map (mm_phi base b) ++ tl)) := by
  obtain rfl : len = 3 := eq_of_beq (show (len == 3) = true from hf)
  obtain ⟨hl, hst, hlr, hR, hn, hc, hsu⟩ := hG
  obtain ⟨hexec, hb, hml, hown, hts, hlk, hct, hroom, hWd⟩ := hx
  rcases st with _ | ⟨z | _ | a, r⟩ <;> try (cases (show (none : Option mm_O) = some (.inl C') from hs); done)
  have h0 := List.forall_mem_cons.mp hst
  dsimp only [mm_step] at hs
  cases hq : mm_ff (mt.2.1.getD (mm_own I) []) i with
  | none => rw [hq] at hs; cases hs
  | some q =>
    obtain ⟨ci, k, kd, fin, pl⟩ := q
    rw [hq] at hs
    dsimp only at hs
    cases hi : mm_isc S ci a with
    | false => rw [hi] at hs; cases hs
    | true =>
      rw [hi] at hs
      dsimp only [cond_true] at hs
      obtain ⟨n, hsh⟩ := mm_isc_at hi
      obtain ⟨C, T, N, hcl, hk, hlink, hfin, hC, hkd⟩ := mm_fld hq
      have hci : ci < 10 := by
        have := (List.getElem?_eq_some_iff.mp hcl).1
        have h9 : classes.length = 7 := rfl
        omega
      obtain ⟨C2, T2, hcl2⟩ := (hR.2.2.1 a ci n hsh).2.1 hci
      cases hcl.symm.trans hcl2
      obtain ⟨⟨ty0, hty, htk⟩, hnm, hin⟩ := mm_cl hcl
      have he : (mm_wld cA base S)[a]? = some (base + a, .inr (ci, (List.range n).map (mm_fv base S ci a))) := by
        rw [mm_wld_at hsh, mm_ent, if_pos hci]
      have hv : ((List.range n).map (mm_fv base S ci a))[k]? = some (mm_fv base S ci a k) := by simp [hk]
      refine va_get hexec hb hts hin hown hWd.1 hR.1 a he hcl k hk (hts _ hlink) (fun _ h => h) hv hd ?_
      have hrf := mm_isref_of hcl hkd
      by_cases h2 : kd = 2
      · rw [if_pos h2] at hs
        cases hr : S.2.2 a k with
        | none => rw [hr] at hs; cases hs
        | some x =>
          rw [hr] at hs
          cases (show (some (.inl (pc + 3, L, .inr (some x) :: r, S, cu, su)) : Option mm_O) = some (.inl C') from hs)
          have e1 : mm_fv base S ci a k = .ref (base + x) := by rw [mm_fv, if_pos (hrf.mpr h2), hr]; rfl
          rw [e1]
          exact kk ls H locs ⟨hl, mm_all_cons trivial h0.2, hlr, hR, hn, hc, hsu⟩
      · rw [if_neg h2] at hs
        cases (show (some (.inl (pc + 3, L, .inl (S.2.1 a k) :: r, S, cu, su)) : Option mm_O) = some (.inl C') from hs)
        have e1 : mm_fv base S ci a k = .int (Int32.ofInt (S.2.1 a k)) := by rw [mm_fv, if_neg (fun h => h2 (hrf.mp h))]
        rw [e1]
        exact kk ls H locs ⟨hl, mm_all_cons (hR.2.2.2.1 a k) h0.2, hlr, hR, hn, hc, hsu⟩
end MMH
