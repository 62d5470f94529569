-- NEW cells, copies, constructors of Object, switches
/-- the new cell lies behind the others -/
theorem mm_addr {D : va_G} {cA : Nat → ClassId} {base : Nat} {S : mm_S} {q : Nat} {en : va_E} {H1 : Heap} {k : Nat} (hP : va_P D classes (mm_wld cA base S ++ [(q, en)]) H1) (hD : va_D (fun q : Nat => base ≤ q) (mm_wld cA base S ++ [(q, en)])) (hz : H1.size ≤ k + 1) (hk : base + S.1.length = k) : q = base + S.1.length := by
  have hlen : (mm_wld cA base S).length = S.1.length := by rw [mm_wld, List.length_mapIdx]
  have hl : (mm_wld cA base S ++ [(q, en)])[S.1.length]? = some (q, en) := by
    rw [List.getElem?_append_right (by omega), hlen, Nat.sub_self]
    rfl
  have h1 : q < H1.size := (hP _ _ hl).lt
  have h2 : base ≤ q := hD.2 _ _ hl
  rcases Nat.lt_or_ge (q - base) S.1.length with h3 | h3
  · exfalso
    obtain ⟨sh, hsh⟩ : ∃ sh, S.1[q - base]? = some sh := ⟨_, List.getElem?_eq_getElem h3⟩
    have h4 : (mm_wld cA base S ++ [(q, en)])[q - base]? = some (base + (q - base), mm_ent cA base S (q - base) sh) := by
      rw [List.getElem?_append_left (by omega)]
      exact mm_wld_at hsh
    have h5 := hD.1 _ _ _ _ h4 hl (by show base + (q - base) = q; omega)
    omega
  · omega
theorem mm_Rel_new {D : va_G} {cA : Nat → ClassId} {base : Nat} {H00 : Heap} {S : mm_S} {H H1 : Heap} {locs : List Loc} {kd n : Nat} (hR : mm_Rel D cA base H00 S H locs) (hsh : n ≤ 10000 ∧ (kd < 10 → ∃ (C : String) (T : u_T), classes[kd]? = some (C, T, n)) ∧ (10 ≤ kd → kd ≤ 13))
    (hP : va_P D classes (mm_wld cA base S ++ [(base + S.1.length, mm_ent cA base S S.1.length (kd, n))]) H1) (hS : va_S (fun q : Nat => base ≤ q) H00 H1 locs) : mm_Rel D cA base H00 (S.1 ++ [(kd, n)], S.2.1, S.2.2) H1 locs := by
  refine ⟨by rw [mm_wld_push]; exact hP, hS, fun a kd' n' h => ?_, hR.2.2.2.1, fun a ha => hR.2.2.2.2 a ?_⟩
  · have h : (S.1 ++ [(kd, n)])[a]? = some (kd', n') := h
    rcases Nat.lt_or_ge a S.1.length with hl | hl
    · rw [List.getElem?_append_left hl] at h
      exact hR.2.2.1 a kd' n' h
    · rw [List.getElem?_append_right hl] at h
      have h2 : a - S.1.length < 1 := (List.getElem?_eq_some_iff.mp h).1
      rw [show a - S.1.length = 0 by omega] at h
      cases h
      exact hsh
  · have ha : (S.1 ++ [(kd, n)]).length ≤ a := ha
    rw [List.length_append] at ha
    omega
theorem mm_cat_sum {base b : Nat} (st : List mm_V) : ((st.map (mm_phi base b)).map fun v => v.category).sum = st.length := by
  induction st with
  | nil => rfl
  | cons v r ih =>
    simp only [List.map_cons, List.sum_cons, mm_phi_cat, ih, List.length_cons]
    omega
section MMN
variable {p : Program} {l : Launch} {e : Env} {R : Room} {s : State} {m : MethodId} {args : Array Value} {below : List Frame} {meth : Method} {c : Code} {H : Heap} {locs : List Loc} {Q : State → Prop}
variable {X : Nat × (Nat → Int)} {I : mm_I} {D : va_G} {cA : Nat → ClassId} {base b : Nat} {H00 : Heap} {pc len tgt : Nat} {L : mm_L} {st : List mm_V} {S : mm_S} {cu su : Nat} {ls : Array Slot} {C' : mm_C} {ex : List (Nat × Value)} {tl : List Value}
theorem mm_bs (hx : mm_Wd X D cA base b H00 s) : ∀ q, H00.size ≤ q → (fun q : Nat => base ≤ q) q := fun q h => by
  show base ≤ q
  have := hx.2.2.2.2.2.1
  omega
theorem mm_s_new {i : Nat} (hx : mm_Cx X I p R s m args meth c D cA base b H00) (hG : mm_G I s D cA base b H00 ex L st S cu su ls H locs) (hd : decode (mm_bytes I) pc = .ok (.new i, len)) (hf : mm_fine I (pc, .new i, len, tgt) = true) (hs : mm_step mt X I (.new i) len tgt (pc, L, st, S, cu, su) = some (.inl C')) (kk : mm_kk p l e R s m args below meth c Q I D cA base b H00 (mm_exi (.new i) ex) tl C') : W p l e R s m args below meth c H locs cu su Q (F0 m pc ls (st.map (mm_phi base b) ++ tl)) := by
  obtain rfl : len = 3 := eq_of_beq (show (len == 3) = true from hf)
  obtain ⟨hl, hst, hlr, hR, hn, hc, hsu⟩ := hG
  obtain ⟨hexec, hb, hml, hown, hts, hlk, hct, hroom, hWd⟩ := hx
  dsimp only [mm_step] at hs
  cases hq : mm_fn (mt.2.2.2.getD (mm_own I) []) i with
  | none => rw [hq] at hs; cases hs
  | some q =>
    obtain ⟨ci, ps⟩ := q
    rw [hq] at hs
    dsimp only at hs
    obtain ⟨C, T, N, hcl, h1, h2, h3⟩ := mm_nld hq
    rw [hcl] at hs
    dsimp only at hs
    by_cases hr : cu + 1 ≤ mm_mc I ∧ su + N ≤ mm_ms I
    · rw [if_pos hr] at hs
      cases (show (some (.inl (pc + 3, L, .inr (some S.1.length) :: st, (S.1 ++ [(ci, N)], S.2.1, S.2.2), cu + 1, su + N)) : Option mm_O) = some (.inl C') from hs)
      obtain ⟨⟨ty0, hty, htk⟩, hnm, hin⟩ := mm_cl hcl
      have hci : ci < 10 := by
        have := (List.getElem?_eq_some_iff.mp hcl).1
        have h9 : classes.length = 7 := rfl
        omega
      have hN : N ≤ 10000 := by
        rcases ci with _ | _ | _ | _ | _ | _ | _ | ci
        · cases hcl; decide
        · cases hcl; decide
        · cases hcl; decide
        · cases hcl; decide
        · cases hcl; decide
        · cases hcl; decide
        · cases hcl; decide
        · exact absurd hcl (by simp [classes])
      refine va_new (fs := (List.range N).map (mm_fv base S ci S.1.length)) hexec hb hts hin ty0 hty hown (hts _ h1) (hts _ h2) (hts _ h3) hWd.1 hR.1 mm_wld_D hR.2.1 (mm_bs hWd) hcl (fun j hj => ?_) (by have := hroom.2.2.1; omega) (by have := hroom.2.2.2; omega) hd (fun q1 H1 hP1 hD1 hS1 => W.sizeLe fun hsz => ?_)
      · have hz := hR.2.2.2.2 S.1.length (Nat.le_refl _) j
        have e1 : vp_V ((List.range N).map (mm_fv base S ci S.1.length)) j = mm_fv base S ci S.1.length j := by
          simp [vp_V, List.getD_eq_getElem?_getD, hj]
        rw [e1, mm_fv, hz.1, hz.2]
        rcases htk j hj with ⟨g1, g2⟩ | ⟨g1, g2⟩ | ⟨g1, g2⟩
        · rw [if_neg (by unfold mm_isref; rw [hcl]; simp [g1]), g2]; rfl
        · rw [if_neg (by unfold mm_isref; rw [hcl]; simp [g1]), g2]; rfl
        · rw [if_pos (by unfold mm_isref; rw [hcl]; simp [g1])]
          cases hty2 : ty0 j <;> rw [hty2] at g2 <;> first | rfl | cases g2
      · have e1 := mm_addr hP1 hD1 (k := s.heap.size + cu) (by omega) hn
        subst e1
        rw [← mm_ent_obj hci] at hP1
        exact kk ls H1 locs ⟨hl, mm_all_cons trivial hst, hlr, mm_Rel_new hR ⟨hN, fun _ => ⟨C, T, hcl⟩, fun h => by omega⟩ hP1 hS1, by
          show base + (S.1 ++ [(ci, N)]).length = _
          rw [List.length_append]
          show base + (S.1.length + 1) = s.heap.size + (cu + 1)
          omega, hr.1, hr.2⟩
    · rw [if_neg hr] at hs; cases hs
/-- an array's class is known by its name -/
theorem mm_tyu {ty : FieldType} {cN : ClassId} {k : Nat} {q : ClassId} (hW : va_K D classes (mm_tys cA) s) (hk : (mm_tys cA)[k]? = some (q, ty)) (h : va_K D classes (mm_tys cA ++ [(cN, ty)]) s) : cN = q := by
  have h1 := (hW.2 k _ hk).2
  have h2 := (h.2 4 (cN, ty) rfl).2
  cases ty with
  | object C =>
    obtain ⟨kA, comp, -, -, -, g1⟩ := h1
    obtain ⟨kA2, comp2, -, -, -, g2⟩ := h2
    exact Option.some.inj (g2.symm.trans g1)
  | _ => exact Option.some.inj ((show s.vm.findClass _ = some cN from h2).symm.trans (show s.vm.findClass _ = some q from h1))
theorem mm_newarr {t : ArrayType} {kd tk : Nat} {ty : FieldType} {n : Int} {r : List mm_V} (hx : mm_Cx X I p R s m args meth c D cA base b H00) (hG : mm_G I s D cA base b H00 ex L (.inl n :: r) S cu su ls H locs) (hd : decode (mm_bytes I) pc = .ok (.newarray t, 2)) (hty : newarray.typeOf t = ty) (harr : (Jvm.Cond.arrayClass ty) ∈ lw_u) (hdf : defaultValue ty = .int 0) (hcb : componentBytes ty ≤ 8) (hkd : 10 ≤ kd ∧ kd < 13) (htk : (mm_tys cA)[tk]? = some (cA kd, ty)) (hr : 0 ≤ n ∧ n ≤ 10000 ∧ cu + 1 ≤ mm_mc I ∧ su + n.toNat ≤ mm_ms I) (kk : mm_kk p l e R s m args below meth c Q I D cA base b H00 ex tl (pc + 2, L, .inr (some S.1.length) :: r, (S.1 ++ [(kd, n.toNat)], S.2.1, S.2.2), cu + 1, su + n.toNat)) : W p l e R s m args below meth c H locs cu su Q (F0 m pc ls ((.inl n :: r).map (mm_phi base b) ++ tl)) := by
  obtain ⟨hl, hst, hlr, hR, hn, hc, hsu⟩ := hG
  obtain ⟨hexec, hb, hml, hown, hts, hlk, hct, hroom, hWd⟩ := hx
  have h0 := List.forall_mem_cons.mp hst
  have hnn : (Int32.ofInt n).toNatClampNeg = n.toNat := mm_nat h0.1
  have hbyt : n.toNat * componentBytes ty ≤ 536870912 := by
    have h1 : n.toNat * componentBytes ty ≤ 10000 * 8 := Nat.mul_le_mul (by omega) hcb
    omega
  refine va_newa (a0 := (n.toNat, .inl (fun j => Int32.ofInt (S.2.1 S.1.length j)))) hexec hb (by rw [hty]; exact hts _ harr) hty hWd.1 hR.1 mm_wld_D hR.2.1 (mm_bs hWd) (fun cQ => ?_) (fun q => by have := (mm_lt h0.1 mm_in0).mp q; omega) hnn hbyt (by have := hroom.2.2.1; omega) (by have := hroom.2.2.2; omega) hd (fun q1 cN H1 hK1 hP1 hD1 hS1 => W.sizeLe fun hsz => ?_)
  · rw [vp_cell_i, hdf]
    congr 1
    funext j
    rw [(hR.2.2.2.2 S.1.length (Nat.le_refl _) j).1]
    rfl
  · have e1 := mm_addr hP1 hD1 (k := s.heap.size + cu) (by omega) hn
    subst e1
    have e2 := mm_tyu hWd.1 htk hK1
    subst e2
    rw [← mm_ent_int (kd := kd) (by omega) (by omega)] at hP1
    exact kk ls H1 locs ⟨hl, mm_all_cons trivial h0.2, hlr, mm_Rel_new hR ⟨by omega, fun h => by omega, fun _ => by omega⟩ hP1 hS1, by
      show base + (S.1 ++ [(kd, n.toNat)]).length = _
      rw [List.length_append]
      show base + (S.1.length + 1) = s.heap.size + (cu + 1)
      omega, hr.2.2.1, hr.2.2.2⟩
theorem mm_s_newarray {t : ArrayType} (hx : mm_Cx X I p R s m args meth c D cA base b H00) (hG : mm_G I s D cA base b H00 ex L st S cu su ls H locs) (hd : decode (mm_bytes I) pc = .ok (.newarray t, len)) (hf : mm_fine I (pc, .newarray t, len, tgt) = true) (hs : mm_step mt X I (.newarray t) len tgt (pc, L, st, S, cu, su) = some (.inl C')) (kk : mm_kk p l e R s m args below meth c Q I D cA base b H00 (mm_exi (.newarray t) ex) tl C') : W p l e R s m args below meth c H locs cu su Q (F0 m pc ls (st.map (mm_phi base b) ++ tl)) := by
  obtain rfl : len = 2 := eq_of_beq (show (len == 2) = true from hf)
  rcases st with _ | ⟨n | a, r⟩ <;> try (cases (show (none : Option mm_O) = some (.inl C') from hs); done)
  dsimp only [mm_step] at hs
  by_cases hr : 0 ≤ n ∧ n ≤ 10000 ∧ cu + 1 ≤ mm_mc I ∧ su + n.toNat ≤ mm_ms I
  · rw [if_pos hr] at hs
    cases t with
    | int =>
      cases (show (some (.inl (pc + 2, L, .inr (some S.1.length) :: r, (S.1 ++ [(10, n.toNat)], S.2.1, S.2.2), cu + 1, su + n.toNat)) : Option mm_O) = some (.inl C') from hs)
      exact mm_newarr (tk := 0) hx hG hd rfl mm_a_int rfl (by decide) (by omega) rfl hr kk
    | char =>
      cases (show (some (.inl (pc + 2, L, .inr (some S.1.length) :: r, (S.1 ++ [(12, n.toNat)], S.2.1, S.2.2), cu + 1, su + n.toNat)) : Option mm_O) = some (.inl C') from hs)
      exact mm_newarr (tk := 2) hx hG hd rfl mm_a_char rfl (by decide) (by omega) rfl hr kk
    | _ => cases hs
  · rw [if_neg hr] at hs; cases hs
theorem mm_s_anewarray {i : Nat} (hx : mm_Cx X I p R s m args meth c D cA base b H00) (hG : mm_G I s D cA base b H00 ex L st S cu su ls H locs) (hd : decode (mm_bytes I) pc = .ok (.anewarray i, len)) (hf : mm_fine I (pc, .anewarray i, len, tgt) = true) (hs : mm_step mt X I (.anewarray i) len tgt (pc, L, st, S, cu, su) = some (.inl C')) (kk : mm_kk p l e R s m args below meth c Q I D cA base b H00 (mm_exi (.anewarray i) ex) tl C') : W p l e R s m args below meth c H locs cu su Q (F0 m pc ls (st.map (mm_phi base b) ++ tl)) := by
  obtain rfl : len = 3 := eq_of_beq (show (len == 3) = true from hf)
  obtain ⟨hl, hst, hlr, hR, hn, hc, hsu⟩ := hG
  obtain ⟨hexec, hb, hml, hown, hts, hlk, hct, hroom, hWd⟩ := hx
  rcases st with _ | ⟨n | a, r⟩ <;> try (cases (show (none : Option mm_O) = some (.inl C') from hs); done)
  have h0 := List.forall_mem_cons.mp hst
  dsimp only [mm_step] at hs
  cases hq : mm_fn (mt.2.2.2.getD (mm_own I) []) i with
  | none => rw [hq] at hs; cases hs
  | some q =>
    obtain ⟨ci, ps⟩ := q
    rw [hq] at hs
    dsimp only at hs
    by_cases hr : ci = 4 ∧ 0 ≤ n ∧ n ≤ 10000 ∧ cu + 1 ≤ mm_mc I ∧ su + n.toNat ≤ mm_ms I
    · rw [if_pos hr] at hs
      cases (show (some (.inl (pc + 3, L, .inr (some S.1.length) :: r, (S.1 ++ [(13, n.toNat)], S.2.1, S.2.2), cu + 1, su + n.toNat)) : Option mm_O) = some (.inl C') from hs)
      obtain ⟨C, T, N, hcl, h1, h2, h3⟩ := mm_nld hq
      rw [hr.1] at hcl
      cases hcl
      refine va_newq (C := RX4) hexec hb hown (hts _ h1) hWd.2.1 hWd.1 hR.1 mm_wld_D hR.2.1 (mm_bs hWd) (fun q => by have := (mm_lt h0.1 mm_in0).mp q; omega) (mm_nat h0.1) (by omega) (by have := hroom.2.2.1; omega) (by have := hroom.2.2.2; omega) hd (fun q1 cN H1 hK1 hP1 hD1 hS1 => W.sizeLe fun hsz => ?_)
      have e1 := mm_addr hP1 hD1 (k := s.heap.size + cu) (by omega) hn
      subst e1
      have e2 := mm_tyu (k := 3) hWd.1 rfl hK1
      subst e2
      have e3 : mm_ent cA base S S.1.length (13, n.toNat) = .inl (cA 13, n.toNat, .inr (.inr (.inr (.inr (fun _ => none))))) := by
        rw [mm_ent_ref]
        have e4 : (fun j => (S.2.2 S.1.length j).map (base + ·)) = fun _ => none := by
          funext j
          rw [(hR.2.2.2.2 S.1.length (Nat.le_refl _) j).2]
          rfl
        rw [e4]
      rw [← e3] at hP1
      exact kk ls H1 locs ⟨hl, mm_all_cons trivial h0.2, hlr, mm_Rel_new hR ⟨by omega, fun h => by omega, fun _ => by omega⟩ hP1 hS1, by
        show base + (S.1 ++ [(13, n.toNat)]).length = _
        rw [List.length_append]
        show base + (S.1.length + 1) = s.heap.size + (cu + 1)
        omega, hr.2.2.2.1, hr.2.2.2.2⟩
    · rw [if_neg hr] at hs; cases hs
theorem mm_mld {o i kd k : Nat} {ps : List Nat} (h : mm_fm (mt.2.2.1.getD o []) i = some (kd, k, ps)) : mm_okML1 o (i, kd, k, ps) = true := by
  have hm := mm_fm_mem h
  have ho : o < 9 := mm_getD_mem hm
  have h1 := mt_okM
  unfold mm_okML at h1
  exact List.all_eq_true.mp (List.all_eq_true.mp h1 o (List.mem_range.mpr ho)) _ hm
theorem mm_s_arraycopy {i k : Nat} {ps : List Nat} {n dp sp : Int} {d a n0 n1 : Nat} {r : List mm_V} (hx : mm_Cx X I p R s m args meth c D cA base b H00) (hG : mm_G I s D cA base b H00 ex L (.inl n :: .inl dp :: .inr (some d) :: .inl sp :: .inr (some a) :: r) S cu su ls H locs) (hd : decode (mm_bytes I) pc = .ok (.invokestatic i, 3)) (hq : mm_fm (mt.2.2.1.getD (mm_own I) []) i = some (5, k, ps)) (hfr : 1 ≤ mm_rf I ∧ 26 ≤ mm_rl I)
    (ha : S.1[a]? = some (10, n0)) (hdd : S.1[d]? = some (10, n1)) (hr : r.length ≤ 8 ∧ 0 ≤ sp ∧ 0 ≤ dp ∧ 0 ≤ n ∧ sp.toNat + n.toNat ≤ n0 ∧ dp.toNat + n.toNat ≤ n1)
    (kk : mm_kk p l e R s m args below meth c Q I D cA base b H00 ex [] (pc + 3, L, r, (S.1, mm_cpy S.2.1 a sp.toNat d dp.toNat n.toNat, S.2.2), cu, su)) : W p l e R s m args below meth c H locs cu su Q (F0 m pc ls ((.inl n :: .inl dp :: .inr (some d) :: .inl sp :: .inr (some a) :: r).map (mm_phi base b) ++ [])) := by
  obtain ⟨hl, hst, hlr, hR, hn, hc, hsu⟩ := hG
  obtain ⟨hexec, hb, hml, hown, hts, hlk, hct, hroom, hWd⟩ := hx
  have h0 := List.forall_mem_cons.mp hst
  have h1 := List.forall_mem_cons.mp h0.2
  have h2 := List.forall_mem_cons.mp h1.2
  have h3 := List.forall_mem_cons.mp h2.2
  have h4 := List.forall_mem_cons.mp h3.2
  have hw := mm_mld hq
  rcases ps with _ | ⟨p0, _ | ⟨p1, _ | ⟨p2, _ | ⟨p3, _ | ⟨p4, ps⟩⟩⟩⟩⟩
  case cons.cons.cons.cons.nil =>
    simp only [mm_okML1, Bool.and_eq_true] at hw
    obtain ⟨⟨⟨w0, w1⟩, w2⟩, w3⟩ := hw
    have nneg : ∀ z : Int, mm_inr (.inl z) → 0 ≤ z → ¬ Int32.ofInt z < 0 := fun z hz hz0 q => by
      have := (mm_lt hz mm_in0).mp q
      omega
    refine va_copyi (ty := .int) hexec hb (by rw [hml]; exact hl.2.1.symm) hown (hts _ (mm_wd_in w0)) (hts _ (mm_wd_in w1)) (hts _ (mm_wd_in w2)) (hts _ (mm_wd_in w3)) hWd.1 hR.1 mm_wld_D hR.2.1 a d 0 0 (by rw [mm_wld_at ha, mm_ent_int (by omega) (by omega)]) (by rw [mm_wld_at hdd, mm_ent_int (by omega) (by omega)]) rfl rfl rfl (nneg sp h3.1 hr.2.1) (nneg dp h1.1 hr.2.2.1) (nneg n h0.1 hr.2.2.2.1) (by rw [mm_nat h3.1, mm_nat h0.1]; exact hr.2.2.2.2.1) (by rw [mm_nat h1.1, mm_nat h0.1]; exact hr.2.2.2.2.2) (fun _ _ => rfl) (by have := hroom.1; omega) ?_ hd (fun H1 locs1 hP1 _ hS1 => ?_)
    · rw [show (r.map (mm_phi base b)).append [] = r.map (mm_phi base b) from List.append_nil _, mm_cat_sum]
      have e1 : nativeFrameWords "java/lang/System" "arraycopy" 5 = 7 := by decide +kernel
      rw [e1]
      have := hroom.2.1
      omega
    · refine kk ls H1 locs1 ⟨hl, h4.2, hlr, ⟨?_, hS1, hR.2.2.1, fun q j => ?_, fun q hq j => ?_⟩, hn, hc, hsu⟩
      · rw [mm_wld_set (S' := (S.1, mm_cpy S.2.1 a sp.toNat d dp.toNat n.toNat, S.2.2)) hdd rfl ?_ (fun q sh' hq => mm_ent_off (fun j => ?_) (fun j => rfl))] at hP1
        · exact hP1
        · rw [mm_ent_int (by omega) (by omega), mm_nat h0.1, mm_nat h1.1, mm_nat h3.1]
          congr 4
          funext j
          unfold va_cpy mm_cpy
          dsimp only
          rw [if_pos rfl]
          by_cases hj : dp.toNat ≤ j ∧ j < dp.toNat + n.toNat
          · rw [if_pos hj, if_pos hj]
          · rw [if_neg hj, if_neg hj]
        · show mm_cpy S.2.1 a sp.toNat d dp.toNat n.toNat q j = S.2.1 q j
          unfold mm_cpy
          rw [if_neg hq]
      · show mm_inr (.inl (mm_cpy S.2.1 a sp.toNat d dp.toNat n.toNat q j))
        unfold mm_cpy
        split
        · split
          · exact hR.2.2.2.1 _ _
          · exact hR.2.2.2.1 _ _
        · exact hR.2.2.2.1 _ _
      · obtain ⟨g1, g2⟩ := hR.2.2.2.2 q hq j
        refine ⟨?_, g2⟩
        show mm_cpy S.2.1 a sp.toNat d dp.toNat n.toNat q j = 0
        unfold mm_cpy
        rw [if_neg]
        · exact g1
        · intro hqd
          have := (List.getElem?_eq_some_iff.mp hdd).1
          have hq : S.1.length ≤ q := hq
          omega
  all_goals exact absurd hw (by simp only [mm_okML1]; cases mt_ents[k]? <;> simp)
theorem mm_s_objinit {i k a : Nat} {ps : List Nat} {r : List mm_V} (hx : mm_Cx X I p R s m args meth c D cA base b H00) (hG : mm_G I s D cA base b H00 ex L (.inr (some a) :: r) S cu su ls H locs) (hd : decode (mm_bytes I) pc = .ok (.invokespecial i, 3)) (hq : mm_fm (mt.2.2.1.getD (mm_own I) []) i = some (4, k, ps)) (hfr : 1 ≤ mm_rf I ∧ 20 ≤ mm_rl I) (hr : r.length ≤ 8)
    (kk : mm_kk p l e R s m args below meth c Q I D cA base b H00 ex [] (pc + 3, L, r, S, cu, su)) : W p l e R s m args below meth c H locs cu su Q (F0 m pc ls ((.inr (some a) :: r).map (mm_phi base b) ++ [])) := by
  obtain ⟨hl, hst, hlr, hR, hn, hc, hsu⟩ := hG
  obtain ⟨hexec, hb, hml, hown, hts, hlk, hct, hroom, hWd⟩ := hx
  have h0 := List.forall_mem_cons.mp hst
  have hw := mm_mld hq
  rcases ps with _ | ⟨p0, _ | ⟨p1, _ | ⟨p2, _ | ⟨p3, ps⟩⟩⟩⟩
  case cons.cons.cons.nil =>
    simp only [mm_okML1, Bool.and_eq_true] at hw
    obtain ⟨⟨w0, w1⟩, w2⟩ := hw
    refine W.objInit hexec hb hown (hts _ (mm_wd_in w0)) (hts _ (mm_wd_in w1)) (hts _ (mm_wd_in w2)) rfl (by rw [hml]; exact hl.2.1) (rest := r.map (mm_phi base b) ++ []) rfl hd (by have := hroom.1; omega) ?_ (kk ls H locs ⟨hl, h0.2, hlr, hR, hn, hc, hsu⟩)
    rw [List.append_nil (r.map (mm_phi base b)), mm_cat_sum]
    show 2 * 0 + r.length + 12 ≤ R.locals
    have := hroom.2.1
    omega
  all_goals exact absurd hw (by simp only [mm_okML1]; cases mt_ents[k]? <;> simp)
theorem mm_s_tableswitch {dd lo hi : Int} {os : Array Int} (hx : mm_Cx X I p R s m args meth c D cA base b H00) (hG : mm_G I s D cA base b H00 ex L st S cu su ls H locs) (hd : decode (mm_bytes I) pc = .ok (.tableswitch dd lo hi os, len)) (hf : mm_fine I (pc, .tableswitch dd lo hi os, len, tgt) = true) (hs : mm_step mt X I (.tableswitch dd lo hi os) len tgt (pc, L, st, S, cu, su) = some (.inl C')) (kk : mm_kk p l e R s m args below meth c Q I D cA base b H00 (mm_exi (.tableswitch dd lo hi os) ex) tl C') : W p l e R s m args below meth c H locs cu su Q (F0 m pc ls (st.map (mm_phi base b) ++ tl)) := by
  simp only [mm_fine, Bool.and_eq_true, decide_eq_true_eq, List.all_eq_true] at hf
  obtain ⟨hl, hst, hlr, hR, hn, hc, hsu⟩ := hG
  rcases st with _ | ⟨z | a, r⟩ <;> try (cases (show (none : Option mm_O) = some (.inl C') from hs); done)
  have h0 := List.forall_mem_cons.mp hst
  dsimp only [mm_step] at hs
  have hz : (Int32.ofInt z).toInt = z := mm_toInt h0.1
  by_cases hr : z < lo ∨ hi < z
  · rw [if_pos hr] at hs
    cases (show (some (.inl (((pc : Int) + dd).toNat, L, r, S, cu, su)) : Option mm_O) = some (.inl C') from hs)
    exact lv_tableOut hx.1 hx.2.1 hd (by rw [hz]; exact hr) (by omega) (kk ls H locs ⟨hl, h0.2, hlr, hR, hn, hc, hsu⟩)
  · rw [if_neg hr] at hs
    cases ho : os[(z - lo).toNat]? with
    | none => rw [ho] at hs; cases hs
    | some o =>
      rw [ho] at hs
      cases (show (some (.inl (((pc : Int) + o).toNat, L, r, S, cu, su)) : Option mm_O) = some (.inl C') from hs)
      have hmem : o ∈ os.toList := by
        rw [← Array.getElem?_toList] at ho
        exact List.mem_of_getElem? ho
      have := hf.2 o hmem
      exact lv_tableIn hx.1 hx.2.1 hd (by rw [hz]; omega) (by rw [hz]; omega) (by rw [hz]; exact ho) (by omega) (kk ls H locs ⟨hl, h0.2, hlr, hR, hn, hc, hsu⟩)
theorem mm_off_in (ps : List (Int × Int)) (dd x : Int) : Op.lookupswitch.offset ps dd x = dd ∨ ∃ q ∈ ps, Op.lookupswitch.offset ps dd x = q.2 := by
  induction ps with
  | nil => exact Or.inl rfl
  | cons q r ih =>
    obtain ⟨a, o⟩ := q
    rw [Op.lookupswitch.offset_cons]
    split
    · exact Or.inr ⟨_, List.mem_cons_self, rfl⟩
    · rcases ih with h | ⟨q, h1, h2⟩
      · exact Or.inl h
      · exact Or.inr ⟨q, List.mem_cons_of_mem _ h1, h2⟩
theorem mm_s_lookupswitch {dd : Int} {ps : Array (Int × Int)} (hx : mm_Cx X I p R s m args meth c D cA base b H00) (hG : mm_G I s D cA base b H00 ex L st S cu su ls H locs) (hd : decode (mm_bytes I) pc = .ok (.lookupswitch dd ps, len)) (hf : mm_fine I (pc, .lookupswitch dd ps, len, tgt) = true) (hs : mm_step mt X I (.lookupswitch dd ps) len tgt (pc, L, st, S, cu, su) = some (.inl C')) (kk : mm_kk p l e R s m args below meth c Q I D cA base b H00 (mm_exi (.lookupswitch dd ps) ex) tl C') : W p l e R s m args below meth c H locs cu su Q (F0 m pc ls (st.map (mm_phi base b) ++ tl)) := by
  simp only [mm_fine, Bool.and_eq_true, decide_eq_true_eq] at hf
  obtain ⟨⟨hf1, hf2⟩, hf3⟩ := hf
  rw [List.all_eq_true] at hf2
  obtain ⟨hl, hst, hlr, hR, hn, hc, hsu⟩ := hG
  rcases st with _ | ⟨z | a, r⟩ <;> try (cases (show (none : Option mm_O) = some (.inl C') from hs); done)
  have h0 := List.forall_mem_cons.mp hst
  have hz : (Int32.ofInt z).toInt = z := mm_toInt h0.1
  cases (show (some (.inl (((pc : Int) + Op.lookupswitch.offset ps.toList dd z).toNat, L, r, S, cu, su)) : Option mm_O) = some (.inl C') from hs)
  have hge : 0 ≤ (pc : Int) + Op.lookupswitch.offset ps.toList dd z := by
    rcases mm_off_in ps.toList dd z with h | ⟨q, h1, h2⟩
    · rw [h]; exact hf1
    · rw [h2]
      have := hf2 q h1
      simpa using this
  exact lv_lookup hx.1 hx.2.1 hd hf3 (by rw [hz]) (by omega) (kk ls H locs ⟨hl, h0.2, hlr, hR, hn, hc, hsu⟩)
end MMN
