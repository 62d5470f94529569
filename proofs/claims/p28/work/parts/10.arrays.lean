-- ARRAYS, new cells, copies, switches
section MMH
variable {p : Program} {l : Launch} {e : Env} {R : Room} {s : State} {m : MethodId} {args : Array Value} {below : List Frame} {meth : Method} {c : Code} {H : Heap} {locs : List Loc} {Q : State → Prop}
variable {X : Nat × (Nat → Int)} {I : mm_I} {D : va_G} {cA : Nat → ClassId} {base b : Nat} {H00 : Heap} {pc len tgt : Nat} {L : mm_L} {st : List mm_V} {S : mm_S} {cu su : Nat} {ls : Array Slot} {C' : mm_C} {ex : List (Nat × Value)} {tl : List Value}
theorem mm_s_iaload (hx : mm_Cx X I p R s m args meth c D cA base b H00) (hG : mm_G I s D cA base b H00 ex L st S cu su ls H locs) (hd : decode (mm_bytes I) pc = .ok (.iaload, len)) (hf : mm_fine I (pc, .iaload, len, tgt) = true) (hs : mm_step mt X I (.iaload) len tgt (pc, L, st, S, cu, su) = some (.inl C')) (kk : mm_kk p l e R s m args below meth c Q I D cA base b H00 (mm_exi (.iaload) ex) tl C') : W p l e R s m args below meth c H locs cu su Q (F0 m pc ls (st.map (mm_phi base b) ++ tl)) := by
  obtain rfl : len = 1 := eq_of_beq (show (len == 1) = true from hf)
  obtain ⟨hl, hst, hlr, hR, hn, hc, hsu⟩ := hG
  obtain ⟨hexec, hb, hml, hown, hts, hlk, hct, hroom, hWd⟩ := hx
  rcases st with _ | ⟨i | a2, _ | ⟨z2 | _ | a, r⟩⟩ <;> try (cases (show (none : Option mm_O) = some (.inl C') from hs); done)
  · have h0 := List.forall_mem_cons.mp hst
    have h1 := List.forall_mem_cons.mp h0.2
    have hs : (if 0 ≤ i ∧ i < X.1 then (some (.inl (pc + 1, L, .inl (X.2 i.toNat) :: r, S, cu, su)) : Option mm_O) else none) = some (.inl C') := hs
    by_cases hi : 0 ≤ i ∧ i < X.1
    · rw [if_pos hi] at hs
      cases hs
      obtain ⟨-, -, -, ⟨xs, hX, hXs⟩, hbl, hbs, hXl⟩ := hWd
      have hk := kk ls H locs ⟨hl, mm_all_cons (by rw [hXs]; exact ⟨by have := Int32.le_toInt (xs i.toNat); dsimp only; omega, by have := Int32.toInt_lt (xs i.toNat); dsimp only; omega⟩) h1.2, hlr, hR, hn, hc, hsu⟩
      refine va_sld hexec hb hX (by rw [hbs]; exact hbl) (Nat.not_le.mpr hbl) hR.2.1 (mm_vin h0.1 hi.1 hi.2) hd ?_
      have e1 : Int32.ofInt (X.2 i.toNat) = xs (Int32.ofInt i).toNatClampNeg := by rw [hXs, mm_nat h0.1]; exact Int32.ofInt_toInt _
      rw [← e1]
      exact hk
    · rw [if_neg hi] at hs
      cases hs
  · have h0 := List.forall_mem_cons.mp hst
    have h1 := List.forall_mem_cons.mp h0.2
    have hs : (if mm_el S 10 a i = true then (some (.inl (pc + 1, L, .inl (S.2.1 a i.toNat) :: r, S, cu, su)) : Option mm_O) else none) = some (.inl C') := hs
    by_cases hi : mm_el S 10 a i = true
    · rw [if_pos hi] at hs
      cases hs
      obtain ⟨n, hsh, h3, h4⟩ := mm_el_at hi
      have hk := kk ls H locs ⟨hl, mm_all_cons (hR.2.2.2.1 a i.toNat) h1.2, hlr, hR, hn, hc, hsu⟩
      refine va_iald hexec hb hWd.1 hR.1 a 0 (by rw [mm_wld_at hsh, mm_ent_int (by omega) (by omega)]) rfl (mm_vin h0.1 h3 h4) hd ?_
      rw [mm_nat h0.1]
      exact hk
    · rw [if_neg hi] at hs
      cases hs
theorem mm_s_caload (hx : mm_Cx X I p R s m args meth c D cA base b H00) (hG : mm_G I s D cA base b H00 ex L st S cu su ls H locs) (hd : decode (mm_bytes I) pc = .ok (.caload, len)) (hf : mm_fine I (pc, .caload, len, tgt) = true) (hs : mm_step mt X I (.caload) len tgt (pc, L, st, S, cu, su) = some (.inl C')) (kk : mm_kk p l e R s m args below meth c Q I D cA base b H00 (mm_exi (.caload) ex) tl C') : W p l e R s m args below meth c H locs cu su Q (F0 m pc ls (st.map (mm_phi base b) ++ tl)) := by
  obtain rfl : len = 1 := eq_of_beq (show (len == 1) = true from hf)
  obtain ⟨hl, hst, hlr, hR, hn, hc, hsu⟩ := hG
  obtain ⟨hexec, hb, hml, hown, hts, hlk, hct, hroom, hWd⟩ := hx
  rcases st with _ | ⟨i | a2, _ | ⟨z2 | _ | a, r⟩⟩ <;> try (cases (show (none : Option mm_O) = some (.inl C') from hs); done)
  have h0 := List.forall_mem_cons.mp hst
  have h1 := List.forall_mem_cons.mp h0.2
  have hs : (if mm_el S 12 a i = true then (some (.inl (pc + 1, L, .inl (S.2.1 a i.toNat) :: r, S, cu, su)) : Option mm_O) else none) = some (.inl C') := hs
  by_cases hi : mm_el S 12 a i = true
  · rw [if_pos hi] at hs
    cases hs
    obtain ⟨n, hsh, h3, h4⟩ := mm_el_at hi
    have hk := kk ls H locs ⟨hl, mm_all_cons (hR.2.2.2.1 a i.toNat) h1.2, hlr, hR, hn, hc, hsu⟩
    refine va_cald hexec hb hWd.1 hR.1 a 2 (by rw [mm_wld_at hsh, mm_ent_int (by omega) (by omega)]) rfl (mm_vin h0.1 h3 h4) hd ?_
    rw [mm_nat h0.1]
    exact hk
  · rw [if_neg hi] at hs
    cases hs
theorem mm_s_aaload (hx : mm_Cx X I p R s m args meth c D cA base b H00) (hG : mm_G I s D cA base b H00 ex L st S cu su ls H locs) (hd : decode (mm_bytes I) pc = .ok (.aaload, len)) (hf : mm_fine I (pc, .aaload, len, tgt) = true) (hs : mm_step mt X I (.aaload) len tgt (pc, L, st, S, cu, su) = some (.inl C')) (kk : mm_kk p l e R s m args below meth c Q I D cA base b H00 (mm_exi (.aaload) ex) tl C') : W p l e R s m args below meth c H locs cu su Q (F0 m pc ls (st.map (mm_phi base b) ++ tl)) := by
  obtain rfl : len = 1 := eq_of_beq (show (len == 1) = true from hf)
  obtain ⟨hl, hst, hlr, hR, hn, hc, hsu⟩ := hG
  obtain ⟨hexec, hb, hml, hown, hts, hlk, hct, hroom, hWd⟩ := hx
  rcases st with _ | ⟨i | a2, _ | ⟨z2 | _ | a, r⟩⟩ <;> try (cases (show (none : Option mm_O) = some (.inl C') from hs); done)
  have h0 := List.forall_mem_cons.mp hst
  have h1 := List.forall_mem_cons.mp h0.2
  dsimp only [mm_step] at hs
  by_cases hi : mm_el S 13 a i = true
  · rw [if_pos hi] at hs
    obtain ⟨n, hsh, h3, h4⟩ := mm_el_at hi
    cases hr : S.2.2 a i.toNat with
    | none => rw [hr] at hs; cases hs
    | some x2 =>
      rw [hr] at hs
      cases (show (some (.inl (pc + 1, L, .inr (some x2) :: r, S, cu, su)) : Option mm_O) = some (.inl C') from hs)
      have hk := kk ls H locs ⟨hl, mm_all_cons trivial h1.2, hlr, hR, hn, hc, hsu⟩
      refine va_aldq hexec hb hWd.1 hR.1 a 3 (by rw [mm_wld_at hsh, mm_ent_ref]) rfl (mm_vin h0.1 h3 h4) hd ?_
      rw [mm_nat h0.1, hr]
      exact hk
  · rw [if_neg hi] at hs
    cases hs
theorem mm_s_iastore (hx : mm_Cx X I p R s m args meth c D cA base b H00) (hG : mm_G I s D cA base b H00 ex L st S cu su ls H locs) (hd : decode (mm_bytes I) pc = .ok (.iastore, len)) (hf : mm_fine I (pc, .iastore, len, tgt) = true) (hs : mm_step mt X I (.iastore) len tgt (pc, L, st, S, cu, su) = some (.inl C')) (kk : mm_kk p l e R s m args below meth c Q I D cA base b H00 (mm_exi (.iastore) ex) tl C') : W p l e R s m args below meth c H locs cu su Q (F0 m pc ls (st.map (mm_phi base b) ++ tl)) := by
  obtain rfl : len = 1 := eq_of_beq (show (len == 1) = true from hf)
  obtain ⟨hl, hst, hlr, hR, hn, hc, hsu⟩ := hG
  obtain ⟨hexec, hb, hml, hown, hts, hlk, hct, hroom, hWd⟩ := hx
  rcases st with _ | ⟨z | a3, _ | ⟨i | a2, _ | ⟨z2 | _ | a, r⟩⟩⟩ <;> try (cases (show (none : Option mm_O) = some (.inl C') from hs); done)
  have h0 := List.forall_mem_cons.mp hst
  have h1 := List.forall_mem_cons.mp h0.2
  have h2 := List.forall_mem_cons.mp h1.2
  have hs : (if mm_el S 10 a i = true then (some (.inl (pc + 1, L, r, (S.1, mm_up S.2.1 a i.toNat z, S.2.2), cu, su)) : Option mm_O) else none) = some (.inl C') := hs
  by_cases hi : mm_el S 10 a i = true
  · rw [if_pos hi] at hs
    cases hs
    obtain ⟨n, hsh, h3, h4⟩ := mm_el_at hi
    refine va_iast hexec hb hWd.1 hR.1 mm_wld_D hR.2.1 a 0 (by rw [mm_wld_at hsh, mm_ent_int (by omega) (by omega)]) rfl (mm_vin h1.1 h3 h4) hd (fun H1 locs1 hP1 _ hS1 => ?_)
    rw [mm_upd_eq h1.1] at hP1
    exact kk ls H1 locs1 ⟨hl, h2.2, hlr, mm_Rel_up hR hsh h0.1 hP1 hS1 (mm_ent_int (by omega) (by omega)), hn, hc, hsu⟩
  · rw [if_neg hi] at hs
    cases hs
theorem mm_s_castore (hx : mm_Cx X I p R s m args meth c D cA base b H00) (hG : mm_G I s D cA base b H00 ex L st S cu su ls H locs) (hd : decode (mm_bytes I) pc = .ok (.castore, len)) (hf : mm_fine I (pc, .castore, len, tgt) = true) (hs : mm_step mt X I (.castore) len tgt (pc, L, st, S, cu, su) = some (.inl C')) (kk : mm_kk p l e R s m args below meth c Q I D cA base b H00 (mm_exi (.castore) ex) tl C') : W p l e R s m args below meth c H locs cu su Q (F0 m pc ls (st.map (mm_phi base b) ++ tl)) := by
  obtain rfl : len = 1 := eq_of_beq (show (len == 1) = true from hf)
  obtain ⟨hl, hst, hlr, hR, hn, hc, hsu⟩ := hG
  obtain ⟨hexec, hb, hml, hown, hts, hlk, hct, hroom, hWd⟩ := hx
  rcases st with _ | ⟨z | a3, _ | ⟨i | a2, _ | ⟨z2 | _ | a, r⟩⟩⟩ <;> try (cases (show (none : Option mm_O) = some (.inl C') from hs); done)
  have h0 := List.forall_mem_cons.mp hst
  have h1 := List.forall_mem_cons.mp h0.2
  have h2 := List.forall_mem_cons.mp h1.2
  have hs : (if mm_el S 12 a i = true ∧ 0 ≤ z ∧ z < 65536 then (some (.inl (pc + 1, L, r, (S.1, mm_up S.2.1 a i.toNat z, S.2.2), cu, su)) : Option mm_O) else none) = some (.inl C') := hs
  by_cases hi : mm_el S 12 a i = true ∧ 0 ≤ z ∧ z < 65536
  · rw [if_pos hi] at hs
    cases hs
    obtain ⟨n, hsh, h3, h4⟩ := mm_el_at hi.1
    have hz : vp_nar .char (Int32.ofInt z) = Int32.ofInt z := by
      show (Int32.ofInt z).toUInt32.toUInt16.toUInt32.toInt32 = _
      exact lg_i2c_small (by rw [mm_toInt h0.1]; exact hi.2.1) (by rw [mm_toInt h0.1]; exact hi.2.2)
    refine va_cast hexec hb hWd.1 hR.1 mm_wld_D hR.2.1 a 2 (by rw [mm_wld_at hsh, mm_ent_int (by omega) (by omega)]) rfl (mm_vin h1.1 h3 h4) hd (fun H1 locs1 hP1 _ hS1 => ?_)
    rw [hz, mm_upd_eq h1.1] at hP1
    exact kk ls H1 locs1 ⟨hl, h2.2, hlr, mm_Rel_up hR hsh h0.1 hP1 hS1 (mm_ent_int (by omega) (by omega)), hn, hc, hsu⟩
  · rw [if_neg hi] at hs
    cases hs
theorem mm_s_aastore (hx : mm_Cx X I p R s m args meth c D cA base b H00) (hG : mm_G I s D cA base b H00 ex L st S cu su ls H locs) (hd : decode (mm_bytes I) pc = .ok (.aastore, len)) (hf : mm_fine I (pc, .aastore, len, tgt) = true) (hs : mm_step mt X I (.aastore) len tgt (pc, L, st, S, cu, su) = some (.inl C')) (kk : mm_kk p l e R s m args below meth c Q I D cA base b H00 (mm_exi (.aastore) ex) tl C') : W p l e R s m args below meth c H locs cu su Q (F0 m pc ls (st.map (mm_phi base b) ++ tl)) := by
  obtain rfl : len = 1 := eq_of_beq (show (len == 1) = true from hf)
  obtain ⟨hl, hst, hlr, hR, hn, hc, hsu⟩ := hG
  obtain ⟨hexec, hb, hml, hown, hts, hlk, hct, hroom, hWd⟩ := hx
  rcases st with _ | ⟨z | _ | x2, _ | ⟨i | a2, _ | ⟨z2 | _ | a, r⟩⟩⟩ <;> try (cases (show (none : Option mm_O) = some (.inl C') from hs); done)
  have h0 := List.forall_mem_cons.mp hst
  have h1 := List.forall_mem_cons.mp h0.2
  have h2 := List.forall_mem_cons.mp h1.2
  have hs : (if mm_el S 13 a i = true ∧ mm_isc S 4 x2 = true then (some (.inl (pc + 1, L, r, (S.1, S.2.1, mm_upr S.2.2 a i.toNat x2), cu, su)) : Option mm_O) else none) = some (.inl C') := hs
  by_cases hi : mm_el S 13 a i = true ∧ mm_isc S 4 x2 = true
  · rw [if_pos hi] at hs
    cases hs
    obtain ⟨n, hsh, h3, h4⟩ := mm_el_at hi.1
    obtain ⟨n2, hsh2⟩ := mm_isc_at hi.2
    refine va_astq (r := (RX4, TX4, 13)) hexec hb hWd.1 hR.1 mm_wld_D hR.2.1 a 3 x2 4 (by rw [mm_wld_at hsh, mm_ent_ref]) rfl (by rw [mm_wld_at hsh2, mm_ent_obj (by omega)]) rfl (mm_vin h1.1 h3 h4) hd (fun H1 locs1 hP1 _ hS1 => ?_)
    refine kk ls H1 locs1 ⟨hl, h2.2, hlr, mm_Rel_upr (k := i.toNat) (z := x2) hR hsh hP1 hS1 ?_, hn, hc, hsu⟩
    rw [mm_ent_ref]
    have e1 : (fun j => (mm_upr S.2.2 a i.toNat x2 a j).map (base + ·)) = va_up (fun j => (S.2.2 a j).map (base + ·)) (Int32.ofInt i).toNatClampNeg (some (base + x2)) := by
      funext j
      unfold va_up mm_upr
      rw [mm_nat h1.1, if_pos rfl]
      by_cases hj : j = i.toNat
      · rw [if_pos hj, if_pos hj]; rfl
      · rw [if_neg hj, if_neg hj]
    dsimp only
    rw [e1]
  · rw [if_neg hi] at hs
    cases hs
theorem mm_s_arraylength (hx : mm_Cx X I p R s m args meth c D cA base b H00) (hG : mm_G I s D cA base b H00 ex L st S cu su ls H locs) (hd : decode (mm_bytes I) pc = .ok (.arraylength, len)) (hf : mm_fine I (pc, .arraylength, len, tgt) = true) (hs : mm_step mt X I (.arraylength) len tgt (pc, L, st, S, cu, su) = some (.inl C')) (kk : mm_kk p l e R s m args below meth c Q I D cA base b H00 (mm_exi (.arraylength) ex) tl C') : W p l e R s m args below meth c H locs cu su Q (F0 m pc ls (st.map (mm_phi base b) ++ tl)) := by
  obtain rfl : len = 1 := eq_of_beq (show (len == 1) = true from hf)
  obtain ⟨hl, hst, hlr, hR, hn, hc, hsu⟩ := hG
  obtain ⟨hexec, hb, hml, hown, hts, hlk, hct, hroom, hWd⟩ := hx
  rcases st with _ | ⟨z | _ | a, r⟩ <;> try (cases (show (none : Option mm_O) = some (.inl C') from hs); done)
  · have h0 := List.forall_mem_cons.mp hst
    cases (show (some (.inl (pc + 1, L, .inl (X.1 : Int) :: r, S, cu, su)) : Option mm_O) = some (.inl C') from hs)
    obtain ⟨-, -, -, ⟨xs, hX, hXs⟩, hbl, hbs, hXl⟩ := hWd
    have hk := kk ls H locs ⟨hl, mm_all_cons ⟨by omega, by omega⟩ h0.2, hlr, hR, hn, hc, hsu⟩
    refine va_slen hexec hb hX (by rw [hbs]; exact hbl) (Nat.not_le.mpr hbl) hR.2.1 hd ?_
    rw [← Int32.ofInt_eq_ofNat]
    exact hk
  · have h0 := List.forall_mem_cons.mp hst
    dsimp only [mm_step] at hs
    cases hsh : S.1[a]? with
    | none => rw [hsh] at hs; cases hs
    | some q =>
      obtain ⟨kd, n⟩ := q
      rw [hsh] at hs
      dsimp only at hs
      cases h10 : Nat.ble 10 kd with
      | false => rw [h10] at hs; cases hs
      | true =>
        rw [h10] at hs
        cases (show (some (.inl (pc + 1, L, .inl (n : Int) :: r, S, cu, su)) : Option mm_O) = some (.inl C') from hs)
        have h10 := Nat.le_of_ble_eq_true h10
        obtain ⟨hn1, -, hk3⟩ := hR.2.2.1 a kd n hsh
        have h13 := hk3 h10
        have hk := kk ls H locs ⟨hl, mm_all_cons ⟨by omega, by omega⟩ h0.2, hlr, hR, hn, hc, hsu⟩
        have hv : Int32.ofNat n = Int32.ofInt (n : Int) := Int32.ofInt_eq_ofNat.symm
        rcases (show kd = 10 ∨ kd = 11 ∨ kd = 12 ∨ kd = 13 by omega) with rfl | rfl | rfl | rfl
        · exact va_alen hexec hb hWd.1 hR.1 a 0 (by rw [mm_wld_at hsh, mm_ent_int (by omega) (by omega)]) rfl hv hd hk
        · exact va_alen hexec hb hWd.1 hR.1 a 1 (by rw [mm_wld_at hsh, mm_ent_int (by omega) (by omega)]) rfl hv hd hk
        · exact va_alen hexec hb hWd.1 hR.1 a 2 (by rw [mm_wld_at hsh, mm_ent_int (by omega) (by omega)]) rfl hv hd hk
        · exact va_alen hexec hb hWd.1 hR.1 a 3 (by rw [mm_wld_at hsh, mm_ent_ref]) rfl hv hd hk
end MMH
