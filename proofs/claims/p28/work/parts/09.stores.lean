-- STEPS that write cells, make them, copy them; switches
theorem mm_a_int : (Jvm.Cond.arrayClass .int) ∈ lw_u := mm_wd_in (p := 96) (by decide +kernel)
theorem mm_a_char : (Jvm.Cond.arrayClass .char) ∈ lw_u := mm_wd_in (p := 152) (by decide +kernel)
theorem mm_nld {o i ci : Nat} {ps : List Nat} (h : mm_fn (mt.2.2.2.getD o []) i = some (ci, ps)) : ∃ (C : String) (T : u_T) (N : Nat), classes[ci]? = some (C, T, N) ∧ (Jvm.Cond.classLink (mm_R o) i C) ∈ lw_u ∧ (Jvm.Cond.instantiable C N) ∈ lw_u ∧ (Jvm.Cond.initialized C) ∈ lw_u := by
  have hm := mm_fn_mem h
  have ho : o < 9 := mm_getD_mem hm
  have h1 := mt_okN
  unfold mm_okNL at h1
  have h2 := List.all_eq_true.mp (List.all_eq_true.mp h1 o (List.mem_range.mpr ho)) _ hm
  dsimp only at h2
  cases hc : classes[ci]? with
  | none => rw [hc] at h2; cases h2
  | some q =>
    obtain ⟨C, T, N⟩ := q
    rw [hc] at h2
    rcases ps with _ | ⟨p0, _ | ⟨p1, _ | ⟨p2, _ | ⟨p3, r⟩⟩⟩⟩ <;> try (cases h2; done)
    simp only [Bool.and_eq_true] at h2
    exact ⟨C, T, N, rfl, mm_wd_in h2.1.1, mm_wd_in h2.1.2, mm_wd_in h2.2⟩
theorem mm_ent_int {cA : Nat → ClassId} {base : Nat} {S : mm_S} {a kd n : Nat} (h1 : 10 ≤ kd) (h2 : kd ≠ 13) : mm_ent cA base S a (kd, n) = .inl (cA kd, n, .inl (fun j => Int32.ofInt (S.2.1 a j))) := by
  rw [mm_ent, if_neg (by show ¬ kd < 10; omega), if_neg (by show ¬ kd = 13; exact h2)]
theorem mm_ent_ref {cA : Nat → ClassId} {base : Nat} {S : mm_S} {a n : Nat} : mm_ent cA base S a (13, n) = .inl (cA 13, n, .inr (.inr (.inr (.inr (fun j => (S.2.2 a j).map (base + ·)))))) := by
  rw [mm_ent, if_neg (by show ¬ 13 < 10; omega), if_pos rfl]
theorem mm_ent_obj {cA : Nat → ClassId} {base : Nat} {S : mm_S} {a ci n : Nat} (h : ci < 10) : mm_ent cA base S a (ci, n) = .inr (ci, (List.range n).map (mm_fv base S ci a)) := by
  rw [mm_ent, if_pos h]
/-- the entries of other cells don't see a change of one -/
theorem mm_ent_off {cA : Nat → ClassId} {base : Nat} {S S' : mm_S} {k : Nat} {sh : Nat × Nat} (h1 : ∀ j, S'.2.1 k j = S.2.1 k j) (h2 : ∀ j, S'.2.2 k j = S.2.2 k j) : mm_ent cA base S' k sh = mm_ent cA base S k sh := by
  have e1 : mm_fv base S' sh.1 k = mm_fv base S sh.1 k := by
    funext j
    rw [mm_fv, mm_fv, h1, h2]
  rw [mm_ent, mm_ent, e1]
  simp only [h1, h2]
theorem mm_up_off {f : Nat → Nat → Int} {a k q j : Nat} {v : Int} (h : q ≠ a) : mm_up f a k v q j = f q j := by
  unfold mm_up
  rw [if_neg h]
theorem mm_upr_off {f : Nat → Nat → Option Nat} {a k q j : Nat} {v : Nat} (h : q ≠ a) : mm_upr f a k v q j = f q j := by
  unfold mm_upr
  rw [if_neg h]
theorem mm_upd_eq {mi : Nat → Nat → Int} {a : Nat} {i z : Int} (hi : mm_inr (.inl i)) : upd (fun j => Int32.ofInt (mi a j)) (Int32.ofInt i).toNatClampNeg (Int32.ofInt z) = fun j => Int32.ofInt (mm_up mi a i.toNat z a j) := by
  funext j
  unfold upd mm_up
  rw [mm_nat hi, if_pos rfl]
  by_cases hj : j = i.toNat
  · rw [if_pos hj, if_pos hj]
  · rw [if_neg hj, if_neg hj]
/-- behind a store of an int -/
theorem mm_Rel_up {D : va_G} {cA : Nat → ClassId} {base : Nat} {H00 : Heap} {S : mm_S} {H H1 : Heap} {locs locs1 : List Loc} {a k : Nat} {z : Int} {sh : Nat × Nat} {en : va_E} (hR : mm_Rel D cA base H00 S H locs) (hsh : S.1[a]? = some sh) (hz : mm_inr (.inl z)) (hP : va_P D classes ((mm_wld cA base S).set a (base + a, en)) H1) (hS : va_S (fun q : Nat => base ≤ q) H00 H1 locs1) (he : mm_ent cA base (S.1, mm_up S.2.1 a k z, S.2.2) a sh = en) : mm_Rel D cA base H00 (S.1, mm_up S.2.1 a k z, S.2.2) H1 locs1 := by
  refine ⟨?_, hS, hR.2.2.1, fun q j => ?_, fun q hq j => ?_⟩
  · rw [mm_wld_set (S' := (S.1, mm_up S.2.1 a k z, S.2.2)) hsh rfl he (fun q sh' hq => mm_ent_off (fun j => mm_up_off hq) (fun j => rfl))] at hP
    exact hP
  · show mm_inr (.inl (mm_up S.2.1 a k z q j))
    unfold mm_up
    split
    · split
      · exact hz
      · exact hR.2.2.2.1 q j
    · exact hR.2.2.2.1 q j
  · have hne : q ≠ a := by
      have := (List.getElem?_eq_some_iff.mp hsh).1
      have hq : S.1.length ≤ q := hq
      omega
    obtain ⟨h1, h2⟩ := hR.2.2.2.2 q hq j
    exact ⟨(mm_up_off hne).trans h1, h2⟩
theorem mm_Rel_upr {D : va_G} {cA : Nat → ClassId} {base : Nat} {H00 : Heap} {S : mm_S} {H H1 : Heap} {locs locs1 : List Loc} {a k z : Nat} {sh : Nat × Nat} {en : va_E} (hR : mm_Rel D cA base H00 S H locs) (hsh : S.1[a]? = some sh) (hP : va_P D classes ((mm_wld cA base S).set a (base + a, en)) H1) (hS : va_S (fun q : Nat => base ≤ q) H00 H1 locs1) (he : mm_ent cA base (S.1, S.2.1, mm_upr S.2.2 a k z) a sh = en) : mm_Rel D cA base H00 (S.1, S.2.1, mm_upr S.2.2 a k z) H1 locs1 := by
  refine ⟨?_, hS, hR.2.2.1, hR.2.2.2.1, fun q hq j => ?_⟩
  · rw [mm_wld_set (S' := (S.1, S.2.1, mm_upr S.2.2 a k z)) hsh rfl he (fun q sh' hq => mm_ent_off (fun j => rfl) (fun j => mm_upr_off hq))] at hP
    exact hP
  · have hne : q ≠ a := by
      have := (List.getElem?_eq_some_iff.mp hsh).1
      have hq : S.1.length ≤ q := hq
      omega
    obtain ⟨h1, h2⟩ := hR.2.2.2.2 q hq j
    exact ⟨h1, (mm_upr_off hne).trans h2⟩
theorem mm_fv_up {base : Nat} {S : mm_S} {ci a k : Nat} {z : Int} (hk : ¬ mm_isref ci k = true) : mm_fv base (S.1, mm_up S.2.1 a k z, S.2.2) ci a k = .int (Int32.ofInt z) := by
  rw [mm_fv, if_neg hk]
  simp [mm_up]
theorem mm_fv_upr {base : Nat} {S : mm_S} {ci a k z : Nat} (hk : mm_isref ci k = true) : mm_fv base (S.1, S.2.1, mm_upr S.2.2 a k z) ci a k = .ref (base + z) := by
  rw [mm_fv, if_pos hk]
  simp [mm_upr, va_rf]
theorem mm_fv_upo {base : Nat} {S : mm_S} {ci a k j : Nat} {z : Int} (hj : j ≠ k) : mm_fv base (S.1, mm_up S.2.1 a k z, S.2.2) ci a j = mm_fv base S ci a j := by
  rw [mm_fv, mm_fv]
  simp [mm_up, hj]
theorem mm_fv_upro {base : Nat} {S : mm_S} {ci a k j z : Nat} (hj : j ≠ k) : mm_fv base (S.1, S.2.1, mm_upr S.2.2 a k z) ci a j = mm_fv base S ci a j := by
  rw [mm_fv, mm_fv]
  simp [mm_upr, hj]
theorem mm_nar_bool {z : Int} (h : z = 0 ∨ z = 1) : narrow .boolean (.int (Int32.ofInt z)) = .int (Int32.ofInt z) ∧ fits .boolean (.int (Int32.ofInt z)) = true := by
  rcases h with rfl | rfl <;> exact ⟨rfl, rfl⟩
theorem mm_nar_ref {ty : FieldType} (h : mm_refty ty = true) (q : Nat) : narrow ty (.ref q) = .ref q ∧ fits ty (.ref q) = true := by
  cases ty <;> first | exact ⟨rfl, rfl⟩ | cases h
section MMH
variable {p : Program} {l : Launch} {e : Env} {R : Room} {s : State} {m : MethodId} {args : Array Value} {below : List Frame} {meth : Method} {c : Code} {H : Heap} {locs : List Loc} {Q : State → Prop}
variable {X : Nat × (Nat → Int)} {I : mm_I} {D : va_G} {cA : Nat → ClassId} {base b : Nat} {H00 : Heap} {pc len tgt : Nat} {L : mm_L} {st : List mm_V} {S : mm_S} {cu su : Nat} {ls : Array Slot} {C' : mm_C} {ex : List (Nat × Value)} {tl : List Value}
/-- a store into a field, final or not -/
theorem mm_put {i ci k kd pl a : Nat} {fin : Bool} {rest : List mm_V} {v : Value} (hx : mm_Cx X I p R s m args meth c D cA base b H00) (hR : mm_Rel D cA base H00 S H locs) (hd : decode (mm_bytes I) pc = .ok (.putfield i, 3))
    (hq : mm_ff (mt.2.1.getD (mm_own I) []) i = some (ci, k, kd, fin, pl)) (hi : mm_isc S ci a = true) (hfi : (!fin || (mm_ctor I && mm_own I == ci)) = true)
    (hfit : ∀ ty : FieldType, (kd = 0 ∧ ty = .int ∨ kd = 1 ∧ ty = .boolean ∨ kd = 2 ∧ mm_refty ty = true) → narrow ty v = v ∧ fits ty v = true)
    (kk : ∀ (n : Nat) (H1 : Heap) (locs1 : List Loc), S.1[a]? = some (ci, n) → (mm_isref ci k = true ↔ kd = 2) → ci < 10 → va_P D classes ((mm_wld cA base S).set a (base + a, .inr (ci, ((List.range n).map (mm_fv base S ci a)).set k v))) H1 → va_S (fun q : Nat => base ≤ q) H00 H1 locs1 → W p l e R s m args below meth c H1 locs1 cu su Q (F0 m (pc + 3) ls (rest.map (mm_phi base b) ++ tl))) :
    W p l e R s m args below meth c H locs cu su Q (F0 m pc ls (v :: .ref (base + a) :: (rest.map (mm_phi base b) ++ tl))) := by
  obtain ⟨hexec, hb, hml, hown, hts, hlk, hct, hroom, hWd⟩ := hx
  obtain ⟨n, hsh⟩ := mm_isc_at hi
  obtain ⟨C, T, N, hcl, hk, hlink, hfin, hC, hkd⟩ := mm_fld hq
  have hci : ci < 10 := by
    have := (List.getElem?_eq_some_iff.mp hcl).1
    have h9 : classes.length = 7 := rfl
    omega
  obtain ⟨C2, T2, hcl2⟩ := (hR.2.2.1 a ci n hsh).2.1 hci
  cases hcl.symm.trans hcl2
  obtain ⟨⟨ty0, hty, htk⟩, hnm, hin⟩ := mm_cl hcl
  have he : (mm_wld cA base S)[a]? = some (base + a, .inr (ci, (List.range n).map (mm_fv base S ci a))) := by
    rw [mm_wld_at hsh, mm_ent, if_pos hci]
  have hnf := hfit (ty0 k) (by
    rcases hkd with ⟨h1, h2⟩ | ⟨h1, h2⟩ | ⟨h1, h2⟩
    · rcases htk k hk with ⟨g1, g2⟩ | ⟨g1, g2⟩ | ⟨g1, g2⟩
      · exact Or.inl ⟨h2, g2⟩
      · rw [h1] at g1; exact absurd g1 (by decide)
      · exact absurd h1 g1.1
    · rcases htk k hk with ⟨g1, g2⟩ | ⟨g1, g2⟩ | ⟨g1, g2⟩
      · rw [h1] at g1; exact absurd g1 (by decide)
      · exact Or.inr (Or.inl ⟨h2, g2⟩)
      · exact absurd h1 g1.2
    · rcases htk k hk with ⟨g1, g2⟩ | ⟨g1, g2⟩ | ⟨g1, g2⟩
      · exact absurd g1 h1.1
      · exact absurd g1 h1.2
      · exact Or.inr (Or.inr ⟨h2, g2⟩))
  have hle : k < ((List.range n).map (mm_fv base S ci a)).length := by simp [hk]
  have hrf := mm_isref_of hcl hkd
  cases hfb : fin with
  | false =>
    exact va_put hexec hb hts hin ty0 hty hnm hown hWd.1 hR.1 mm_wld_D hR.2.1 a he hcl k hk (hts _ hlink) (fun _ h => h) (by rw [hfin, hfb]) (hty k hk) hnf.1 hnf.2 hle hd (fun H1 locs1 hP1 _ hS1 => kk n H1 locs1 hsh hrf hci hP1 hS1)
  | true =>
    rw [hfb] at hfi
    simp only [Bool.not_true, Bool.false_or, Bool.and_eq_true, beq_iff_eq] at hfi
    have hown2 : (T k).1 = mm_R (mm_own I) := by
      rw [hC, hfi.2]
      rcases ci with _ | _ | _ | _ | _ | _ | _ | ci
      · cases hcl; rfl
      · cases hcl; rfl
      · cases hcl; rfl
      · cases hcl; rfl
      · cases hcl; rfl
      · cases hcl; rfl
      · cases hcl; rfl
      · exact absurd hcl (by simp [classes])
    exact va_putF hexec hb hts hin ty0 hty hnm hown hWd.1 hR.1 mm_wld_D hR.2.1 a he hcl k hk (hts _ hlink) (fun _ h => h) (by rw [hfin, hfb]) (hct hfi.1) hown2 (hty k hk) hnf.1 hnf.2 hle hd (fun H1 locs1 hP1 _ hS1 => kk n H1 locs1 hsh hrf hci hP1 hS1)
theorem mm_s_putfield {i : Nat} (hx : mm_Cx X I p R s m args meth c D cA base b H00) (hG : mm_G I s D cA base b H00 ex L st S cu su ls H locs) (hd : decode (mm_bytes I) pc = .ok (.putfield i, len)) (hf : mm_fine I (pc, .putfield i, len, tgt) = true) (hs : mm_step mt X I (.putfield i) len tgt (pc, L, st, S, cu, su) = some (.inl C')) (kk : mm_kk p l e R s m args below meth c Q I D cA base b H00 (mm_exi (.putfield i) ex) tl C') : W p l e R s m args below meth c H locs cu su Q (F0 m pc ls (st.map (mm_phi base b) ++ tl)) := by
  obtain rfl : len = 3 := eq_of_beq (show (len == 3) = true from hf)
  obtain ⟨hl, hst, hlr, hR, hn, hc, hsu⟩ := hG
  rcases st with _ | ⟨z | _ | x2, _ | ⟨z2 | _ | a, r⟩⟩ <;> try (cases (show (none : Option mm_O) = some (.inl C') from hs); done)
  · have h0 := List.forall_mem_cons.mp hst
    have h1 := List.forall_mem_cons.mp h0.2
    dsimp only [mm_step] at hs
    cases hq : mm_ff (mt.2.1.getD (mm_own I) []) i with
    | none => rw [hq] at hs; cases hs
    | some q =>
      obtain ⟨ci, k, kd, fin, pl⟩ := q
      rw [hq] at hs
      dsimp only at hs
      cases hi : (mm_isc S ci a && (!fin || (mm_ctor I && mm_own I == ci))) with
      | false => rw [hi] at hs; cases hs
      | true =>
        rw [hi] at hs
        dsimp only [cond_true] at hs
        rw [Bool.and_eq_true] at hi
        by_cases h2 : kd = 2
        · rw [if_pos h2] at hs; cases hs
        · rw [if_neg h2] at hs
          by_cases h3 : kd = 0 ∨ z = 0 ∨ z = 1
          · rw [if_pos h3] at hs
            cases (show (some (.inl (pc + 3, L, r, (S.1, mm_up S.2.1 a k z, S.2.2), cu, su)) : Option mm_O) = some (.inl C') from hs)
            refine mm_put (v := .int (Int32.ofInt z)) hx hR hd hq hi.1 hi.2 (fun ty hty => ?_) (fun n H1 locs1 hsh hrf hci hP1 hS1 => ?_)
            · rcases hty with ⟨_, rfl⟩ | ⟨g1, rfl⟩ | ⟨g1, _⟩
              · exact ⟨rfl, rfl⟩
              · exact mm_nar_bool (h3.resolve_left (by omega))
              · exact absurd g1 h2
            · refine kk ls H1 locs1 ⟨hl, h1.2, hlr, mm_Rel_up hR hsh h0.1 hP1 hS1 ?_, hn, hc, hsu⟩
              rw [mm_ent_obj hci, ← mm_map_set (mm_fv_up (fun h => h2 (hrf.mp h))) (fun j hj => mm_fv_upo hj)]
          · rw [if_neg h3] at hs; cases hs
  · have h0 := List.forall_mem_cons.mp hst
    have h1 := List.forall_mem_cons.mp h0.2
    dsimp only [mm_step] at hs
    cases hq : mm_ff (mt.2.1.getD (mm_own I) []) i with
    | none => rw [hq] at hs; cases hs
    | some q =>
      obtain ⟨ci, k, kd, fin, pl⟩ := q
      rw [hq] at hs
      dsimp only at hs
      cases hi : (mm_isc S ci a && (!fin || (mm_ctor I && mm_own I == ci))) with
      | false => rw [hi] at hs; cases hs
      | true =>
        rw [hi] at hs
        dsimp only [cond_true] at hs
        rw [Bool.and_eq_true] at hi
        by_cases h2 : kd = 2
        · rw [if_pos h2] at hs
          cases (show (some (.inl (pc + 3, L, r, (S.1, S.2.1, mm_upr S.2.2 a k x2), cu, su)) : Option mm_O) = some (.inl C') from hs)
          refine mm_put (v := .ref (base + x2)) hx hR hd hq hi.1 hi.2 (fun ty hty => ?_) (fun n H1 locs1 hsh hrf hci hP1 hS1 => ?_)
          · rcases hty with ⟨g1, _⟩ | ⟨g1, _⟩ | ⟨_, g1⟩
            · omega
            · omega
            · exact mm_nar_ref g1 _
          · refine kk ls H1 locs1 ⟨hl, h1.2, hlr, mm_Rel_upr hR hsh hP1 hS1 ?_, hn, hc, hsu⟩
            rw [mm_ent_obj hci, ← mm_map_set (mm_fv_upr (hrf.mpr h2)) (fun j hj => mm_fv_upro hj)]
        · rw [if_neg h2] at hs; cases hs
end MMH
