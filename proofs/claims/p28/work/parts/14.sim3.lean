-- THE SIMULATION, third part: calls and ends
section MMC
variable {p : Program} {l : Launch} {e : Env} {R : Room} {s : State} {m : MethodId} {args : Array Value} {below : List Frame} {meth : Method} {c : Code} {H : Heap} {locs : List Loc} {Q : State → Prop}
variable {X : Nat × (Nat → Int)} {I : mm_I} {D : va_G} {cA : Nat → ClassId} {base b : Nat} {H00 : Heap} {pc len tgt : Nat} {L : mm_L} {st : List mm_V} {S : mm_S} {cu su : Nat} {ls : Array Slot} {C' : mm_C} {ex : List (Nat × Value)} {tl : List Value}
/-- behind a call: the walk goes on with the small machine's next place -/
theorem mm_backG {e1 : mm_I × mm_K} {r : List mm_V} {S1 : mm_S} {v1 : Option mm_V} {a : Array Value} (hG : mm_G I s D cA base b H00 ex L st S cu su ls H locs) (hr : ∀ w ∈ r, mm_inr w) (hmc : cu + mm_mc e1.1 ≤ mm_mc I) (hms : su + mm_ms e1.1 ≤ mm_ms I)
    (kk : mm_kk p l e R s m args below meth c Q I D cA base b H00 ex tl (pc + 3, L, v1.toList ++ r, S1, cu + mm_mc e1.1, su + mm_ms e1.1))
    (hcall : va_Run p l e R s m args below meth c H locs cu su (mm_mc e1.1) (mm_ms e1.1) (F0 m pc ls (st.map (mm_phi base b) ++ tl)) (r.map (mm_phi base b) ++ tl) (mm_Qc D cA base b H00 S S1 v1 (mm_mc e1.1) a) (fun q => base ≤ q)) :
    W p l e R s m args below meth c H locs cu su Q (F0 m pc ls (st.map (mm_phi base b) ++ tl)) := by
  refine mm_callG hcall (fun v2 st0 t locs1 h0 hq hl => ?_)
  obtain ⟨hv, hR1, hlen, hin⟩ := hq
  cases hv
  have hl1 : ∀ q ∈ locs1, base ≤ q.base := fun q hq => (hl q hq).elim (fun h => hG.2.2.2.1.2.1.2.2 q h) id
  have hee : (v1.map (mm_phi base b)).toList ++ (r.map (mm_phi base b) ++ tl) = (v1.toList ++ r).map (mm_phi base b) ++ tl := by cases v1 <;> rfl
  have h2 : W p l e R s m args below meth c t.heap locs1 (cu + mm_mc e1.1) (su + mm_ms e1.1) Q (F0 m (pc + 3) ls ((v1.toList ++ r).map (mm_phi base b) ++ tl)) := kk ls t.heap locs1 ⟨hG.1, fun w hw => (List.mem_append.mp hw).elim (fun h => hin w (by cases v1 with | none => cases h | some u => rw [List.mem_singleton.mp h])) (hr w), hG.2.2.1, hR1.off hl1, by have := hG.2.2.2.2.1; show base + S1.1.length = s.heap.size + (cu + mm_mc e1.1); omega, hmc, hms⟩
  rw [← hee] at h2
  exact h2
/-- the callee's start, at the caller's state -/
theorem mm_pre {as : List mm_V} (hWd : mm_Wd X D cA base b H00 s) (hR : mm_Rel D cA base H00 S H locs) (hz : base + S.1.length = H.size) : FrameBlind (mm_Pc X D cA base b H00 S as) ∧ ∀ U : State, U.heap = H → s.WarmedH U.vm → mm_Pc X D cA base b H00 S as (as.map (mm_phi base b)).toArray U :=
  ⟨mm_Pc_blind, fun U hU hW => ⟨rfl, by rw [hU]; exact hR.off (fun _ h => absurd h List.not_mem_nil), mm_Wd.moved hW hWd, by rw [hU]; exact hz⟩⟩
theorem mm_sumle {rest : List Value} (r : List mm_V) (h : r.length ≤ 8) (htl : tl = [] ∨ r.length + (tl.map fun v => v.category).sum ≤ 8) : 2 * (F0 m pc ls rest).monitorRoom + ((r.map (mm_phi base b) ++ tl).map fun v => v.category).sum ≤ 8 := lv_room (by
  rw [List.map_append, List.sum_append, mm_cat_sum]
  rcases htl with rfl | q
  · simpa using h
  · exact q)
end MMC
theorem mm_inj {a1 b1 a3 b3 a7 b7 a8 b8 : Nat} {a2 b2 a5 b5 : List mm_V} {a4 b4 : mm_L} {a6 b6 : mm_S} (h : (some (.inr (.inl (a1, a2, a3, a4, a5, a6, a7, a8))) : Option mm_O) = some (.inr (.inl (b1, b2, b3, b4, b5, b6, b7, b8)))) : a1 = b1 ∧ a2 = b2 ∧ a3 = b3 ∧ a4 = b4 ∧ a5 = b5 ∧ a6 = b6 ∧ a7 = b7 ∧ a8 = b8 := by
  cases h
  exact ⟨rfl, rfl, rfl, rfl, rfl, rfl, rfl, rfl⟩
theorem mm_exi_nil {ins : Instr} : mm_exi ins [] = [] := by cases ins <;> rfl
theorem mm_own9 {k : Nat} {e1 : mm_I × mm_K} (h : mt_ents[k]? = some e1) : mm_own e1.1 < 9 := by
  have h1 : mt_ents.all (fun e => Nat.blt (mm_own e.1) 9) = true := by decide +kernel
  exact Nat.le_of_ble_eq_true (List.all_eq_true.mp h1 e1 (List.mem_of_getElem? h))
section MMC2
variable {p : Program} {l : Launch} {e : Env} {R : Room} {s : State} {m : MethodId} {args : Array Value} {below : List Frame} {meth : Method} {c : Code} {H : Heap} {locs : List Loc} {Q : State → Prop}
variable {X : Nat × (Nat → Int)} {I : mm_I} {D : va_G} {cA : Nat → ClassId} {base b : Nat} {H00 : Heap} {pc len tgt : Nat} {L : mm_L} {st : List mm_V} {S : mm_S} {cu su : Nat} {ls : Array Slot} {C' : mm_C} {ex : List (Nat × Value)} {tl : List Value}
set_option maxHeartbeats 8000000 in
/-- a call, whatever lies below on the stack -/
theorem mm_callS {n k1' : Nat} {ins : Instr} {as' : List mm_V} {pc2 cu2 su2 : Nat} {L2 : mm_L} {st2 : List mm_V} {S2 S1 : mm_S} {e1' : mm_I × mm_K} {v1 : Option mm_V} (hok : mm_okAll) (ih : mm_Says X n) (hx : mm_Cx X I p R s m args meth c D cA base b H00) (hG : mm_G I s D cA base b H00 ex L st S cu su ls H locs) (hd : decode (mm_bytes I) pc = .ok (ins, len)) (hf : mm_fine I (pc, ins, len, tgt) = true) (hs : mm_step mt X I ins len tgt (pc, L, st, S, cu, su) = some (.inr (.inl (k1', as', pc2, L2, st2, S2, cu2, su2)))) (he1' : mt_ents[k1']? = some e1') (hrun1 : mm_run mt X n k1' (0, mm_entry e1'.1 as', [], S2, 0, 0) = some (v1, S1)) (htl : tl = [] ∨ st2.length + (tl.map fun v => v.category).sum ≤ 8)
    (kk : mm_kk p l e R s m args below meth c Q I D cA base b H00 ex tl (pc2, L2, v1.toList ++ st2, S1, cu2, su2)) : W p l e R s m args below meth c H locs cu su Q (F0 m pc ls (st.map (mm_phi base b) ++ tl)) := by
  cases hpl : mm_plain ins with
  | true => exact absurd hs (fun z => mm_plain_next hpl z)
  | false =>
  have hx0 := hx
  obtain ⟨hexec, hb, hml, hown, hts, hlk, hct, hroom, hWd⟩ := hx
  have hG0 := hG
  obtain ⟨hl, hst, hlr, hR, hn, hc, hsu⟩ := hG
  refine W.sizeLe (fun hsz => ?_)
  have hz := mm_size hR hWd.2.2.2.2.2.1 hsz hn
  cases ins with
  | ireturn =>
    rcases st with _ | ⟨z | a, _ | ⟨w, r⟩⟩ <;> try (cases (show (none : Option mm_O) = _ from hs); done)
    have hs : (if cu = mm_mc I ∧ (mm_bool I = false ∨ z = 0 ∨ z = 1) then (some (.inr (.inr (some (.inl z), S))) : Option mm_O) else none) = some (.inr (.inl (k1', as', pc2, L2, st2, S2, cu2, su2))) := hs
    by_cases hq : cu = mm_mc I ∧ (mm_bool I = false ∨ z = 0 ∨ z = 1)
    · rw [if_pos hq] at hs; cases hs
    · rw [if_neg hq] at hs; cases hs
  | return_ =>
    rcases st with _ | ⟨w, r⟩ <;> try (cases (show (none : Option mm_O) = _ from hs); done)
    have hs : (if cu = mm_mc I then (some (.inr (.inr (none, S))) : Option mm_O) else none) = some (.inr (.inl (k1', as', pc2, L2, st2, S2, cu2, su2))) := hs
    by_cases hq : cu = mm_mc I
    · rw [if_pos hq] at hs; cases hs
    · rw [if_neg hq] at hs; cases hs
  | invokevirtual i =>
    simp only [mm_fine, Bool.and_eq_true, beq_iff_eq] at hf
    obtain ⟨rfl, hfit⟩ := hf
    dsimp only [mm_step] at hs
    cases hq : mm_fm (mt.2.2.1.getD (mm_own I) []) i with
    | none => rw [hq] at hs; cases hs
    | some q =>
      obtain ⟨kd, k1, ps⟩ := q
      rw [hq] at hs
      dsimp only at hs
      cases hk1 : mt.1[k1]? with
      | none => rw [hk1] at hs; cases hs
      | some e1 =>
        have he1 : mt_ents[k1]? = some e1 := hk1
        rw [hk1] at hs
        dsimp only at hs
        generalize hdr : st.drop (mm_nargs e1.1 - 1) = dr at hs
        rcases dr with _ | ⟨z | _ | a, r⟩ <;> try (cases (show (none : Option mm_O) = _ from hs); done)
        dsimp only at hs
        cases hck : (kd == 0 && mm_isc S (mm_own e1.1) a && Nat.ble r.length 8 && Nat.ble (cu + mm_mc e1.1) (mm_mc I) && Nat.ble (su + mm_ms e1.1) (mm_ms I)) with
        | false => rw [hck] at hs; cases hs
        | true =>
          rw [hck] at hs
          obtain ⟨rfl, rfl, rfl, rfl, rfl, rfl, rfl, rfl⟩ := mm_inj hs
          obtain rfl : e1 = e1' := Option.some.inj (hk1.symm.trans he1')
          simp only [Bool.and_eq_true, beq_iff_eq] at hck
          obtain ⟨⟨⟨⟨hkd, hisc⟩, hr8⟩, hmc⟩, hms⟩ := hck
          have hr8 := Nat.le_of_ble_eq_true hr8
          have hmc := Nat.le_of_ble_eq_true hmc
          have hms := Nat.le_of_ble_eq_true hms
          subst hkd
          obtain ⟨hcode, hplain, hcls, hmh, hctor, hrt, hna⟩ := mm_hd hok he1
          have hw := mm_mld hq
          rcases ps with _ | ⟨p0, _ | ⟨p1, _ | ⟨p2, _ | ⟨p3, ps⟩⟩⟩⟩
          case cons.cons.cons.nil =>
            simp only [mm_okML1, show mt_ents[k1]? = some e1 from he1, Bool.and_eq_true, decide_eq_true_eq] at hw
            obtain ⟨⟨⟨⟨⟨w0, w1⟩, w2⟩, w3⟩, w4⟩, w5⟩ := hw
            have w4 := Nat.le_of_ble_eq_true w4
            have w5 := Nat.le_of_ble_eq_true w5
            have hlen : st.length = mm_nargs e1.1 - 1 + (r.length + 1) := by
              have h1 := congrArg List.length hdr
              rw [List.length_drop, List.length_cons] at h1
              omega
            have hst2 : st = st.take (mm_nargs e1.1 - 1) ++ (.inr (some a) :: r) := by rw [← hdr, List.take_append_drop]
            have hfit2 : mm_fit I e1.1 = true := by
              simp only [mm_fitM, show mm_fm (mt_ml.getD (mm_own I) []) i = some (0, k1, [p0, p1, p2]) from hq, show mt_ents[k1]? = some e1 from he1] at hfit
              exact hfit
            unfold mm_fit at hfit2
            rw [Bool.and_eq_true] at hfit2
            have hfa := Nat.le_of_ble_eq_true hfit2.1
            have hfb := Nat.le_of_ble_eq_true hfit2.2
            obtain ⟨T0, N0, hcl0⟩ := mm_clsR (o := mm_own e1.1) (by omega)
            obtain ⟨nn, hsh⟩ := mm_isc_at hisc
            have hrcv := va_recv hWd.1 hR.1 (q0 := a) hcl0 (by rw [mm_wld_at hsh, mm_ent_obj (by omega)])
            have hmet := mm_met l hok ih he1 hrun1 (by simp; omega) (fun w hw => by
              rcases List.mem_cons.mp hw with rfl | hw
              · trivial
              · exact hst w (List.mem_of_mem_take (List.mem_reverse.mp hw))) (mm_run_int mt n k1 _ v1 S1 hrun1)
              (D := D) (cA := cA) (base := base) (b := b) (H00 := H00)
            have hpre := mm_pre (as := .inr (some a) :: (st.take (mm_nargs e1.1 - 1)).reverse) hWd hR hz
            refine mm_backG (r := r) (e1 := e1) hG0 (fun w hw => hst w (by rw [hst2]; exact List.mem_append_right _ (List.mem_cons_of_mem _ hw))) hmc hms kk
              (va_runV (C := mm_R (mm_own e1.1)) (b := base + a) (As := ((st.take (mm_nargs e1.1 - 1)).reverse).map (mm_phi base b)) ⟨hexec, hb, hml, hown, hts⟩ hmet (cwV (mm_nargs e1.1 - 1) hts (mm_gi (fun w hw => ?_)) rfl rfl rfl ⟨hcls, hmh.1, hmh.2, w3⟩ ⟨by show mm_rf e1.1 + 1 ≤ _; have := hroom.1; omega, by show 8 + (mm_maxL e1.1 + 11) + mm_rl e1.1 ≤ _; have := hroom.2.1; omega⟩)
                ⟨hpre.1, hrcv, hpre.2⟩ rfl ?_ hl.2.1 ?_ (mm_sumle r hr8 htl) hd ⟨Nat.le_trans hmc hroom.2.2.1, Nat.le_trans hms hroom.2.2.2⟩)
            · rcases List.mem_append.mp hw with hw | hw
              · simp only [List.mem_cons, List.not_mem_nil, or_false] at hw
                rcases hw with rfl | rfl | rfl | rfl
                · exact mm_wd_in w0
                · exact mm_wd_in w1
                · rw [hcls] at w2; exact mm_wd_in w2
                · exact mm_ini (by omega)
              · rcases List.mem_cons.mp hw with rfl | hw
                · exact hcode
                · exact hw
            · simp; omega
            · show st.map (mm_phi base b) ++ tl = _
              rw [← List.map_reverse, List.reverse_reverse]
              conv => lhs; rw [hst2]
              rw [List.map_append, List.append_assoc]
              rfl
          all_goals exact absurd hw (by simp [mm_okML1, show mt_ents[k1]? = some e1 from he1])
  | invokespecial i =>
    simp only [mm_fine, Bool.and_eq_true, beq_iff_eq] at hf
    obtain ⟨rfl, hfit⟩ := hf
    dsimp only [mm_step] at hs
    cases hq : mm_fm (mt.2.2.1.getD (mm_own I) []) i with
    | none => rw [hq] at hs; cases hs
    | some q =>
      obtain ⟨kd, k1, ps⟩ := q
      rw [hq] at hs
      dsimp only at hs
      rcases st with _ | ⟨z | _ | a, r⟩ <;> try (cases (show (none : Option mm_O) = _ from hs); done)
      dsimp only at hs
      have hri := (List.forall_mem_cons.mp hst).2
      cases h4 : (kd == 4) with
      | true =>
        rw [h4] at hs
        dsimp only [cond_true] at hs
        cases hr8 : Nat.ble r.length 8 with
        | false => rw [hr8] at hs; cases hs
        | true => rw [hr8] at hs; cases hs
      | false =>
        rw [h4] at hs
        dsimp only [cond_false] at hs
        cases hk1 : mt.1[k1]? with
        | none => rw [hk1] at hs; cases hs
        | some e1 =>
          have he1 : mt_ents[k1]? = some e1 := hk1
          rw [hk1] at hs
          dsimp only at hs
          cases hck : (kd == 1 && Nat.ble r.length 8 && mm_nargs e1.1 == 1 && Nat.ble (cu + mm_mc e1.1) (mm_mc I) && Nat.ble (su + mm_ms e1.1) (mm_ms I)) with
          | false => rw [hck] at hs; cases hs
          | true =>
            rw [hck] at hs
            obtain ⟨rfl, rfl, rfl, rfl, rfl, rfl, rfl, rfl⟩ := mm_inj hs
            obtain rfl : e1 = e1' := Option.some.inj (hk1.symm.trans he1')
            simp only [Bool.and_eq_true, beq_iff_eq] at hck
            obtain ⟨⟨⟨⟨hkd, hr8⟩, hna1⟩, hmc⟩, hms⟩ := hck
            have hr8 := Nat.le_of_ble_eq_true hr8
            have hmc := Nat.le_of_ble_eq_true hmc
            have hms := Nat.le_of_ble_eq_true hms
            subst hkd
            obtain ⟨hcode, hplain, hcls, hmh, hctor, hrt, hna⟩ := mm_hd hok he1
            have hw := mm_mld hq
            rcases ps with _ | ⟨p0, _ | ⟨p1, _ | ⟨p2, ps⟩⟩⟩
            case cons.cons.nil =>
              simp only [mm_okML1, show mt_ents[k1]? = some e1 from he1, Bool.and_eq_true, Bool.not_eq_true', beq_eq_false_iff_ne, decide_eq_true_eq] at hw
              obtain ⟨⟨⟨⟨w0, w1⟩, w3⟩, w4⟩, w5⟩ := hw
              have hfit2 : mm_fit I e1.1 = true := by
                simp only [mm_fitM, show mm_fm (mt_ml.getD (mm_own I) []) i = some (1, k1, [p0, p1]) from hq, show mt_ents[k1]? = some e1 from he1] at hfit
                exact hfit
              unfold mm_fit at hfit2
              rw [Bool.and_eq_true] at hfit2
              have hfa := Nat.le_of_ble_eq_true hfit2.1
              have hfb := Nat.le_of_ble_eq_true hfit2.2
              have hown9 : mm_own e1.1 < 9 := mm_own9 he1
              have hmet := mm_met l hok ih he1 hrun1 (by simp; omega) (fun w hw => by rw [List.mem_singleton.mp hw]; trivial) (mm_run_int mt n k1 _ v1 S1 hrun1)
                (D := D) (cA := cA) (base := base) (b := b) (H00 := H00)
              have hpre := mm_pre (as := [.inr (some a)]) hWd hR hz
              exact mm_backG (r := r) (e1 := e1) hG0 hri hmc hms kk
                (va_runI (b := base + a) (As := []) ⟨hexec, hb, hml, hown, hts⟩ hmet (cwI 0 hts (mm_gi (fun w hw => by
                  rcases List.mem_cons.mp hw with rfl | hw
                  · exact hcode
                  · exact hw)) (by rw [mm_ws, w4]) rfl rfl (hts _ (by rw [hcls]; exact mm_ini hown9)) (hts _ (mm_wd_in w0)) (hts _ (mm_wd_in w1)) w5 ⟨hmh.1, hmh.2, w3⟩ ⟨by show mm_rf e1.1 + 1 ≤ _; have := hroom.1; omega, by show 8 + (mm_maxL e1.1 + 11) + mm_rl e1.1 ≤ _; have := hroom.2.1; omega⟩)
                  hpre rfl rfl hl.2.1 rfl (mm_sumle r hr8 htl) hd ⟨Nat.le_trans hmc hroom.2.2.1, Nat.le_trans hms hroom.2.2.2⟩)
            all_goals exact absurd hw (by simp [mm_okML1, show mt_ents[k1]? = some e1 from he1])
  | invokestatic i =>
    simp only [mm_fine, Bool.and_eq_true, beq_iff_eq] at hf
    obtain ⟨rfl, hfit⟩ := hf
    dsimp only [mm_step] at hs
    cases hq : mm_fm (mt.2.2.1.getD (mm_own I) []) i with
    | none => rw [hq] at hs; cases hs
    | some q =>
      obtain ⟨kd, k1, ps⟩ := q
      rw [hq] at hs
      dsimp only at hs
      cases h5 : (kd == 5) with
      | true =>
        rw [h5] at hs
        dsimp only [cond_true] at hs
        rcases st with _ | ⟨nn | _ | _, _ | ⟨dp | _ | _, _ | ⟨_ | _ | d, _ | ⟨sp | _ | _, _ | ⟨_ | _ | a, r⟩⟩⟩⟩⟩ <;> try (cases (show (none : Option mm_O) = _ from hs); done)
        dsimp only at hs
        cases hsa : S.1[a]? with
        | none => rw [hsa] at hs; cases hs
        | some qa =>
          obtain ⟨k0, n0⟩ := qa
          cases hsd : S.1[d]? with
          | none => rw [hsa, hsd] at hs; cases hs
          | some qd =>
            obtain ⟨k2, n1⟩ := qd
            rw [hsa, hsd] at hs
            dsimp only at hs
            by_cases hc5 : k0 = 10 ∧ k2 = 10 ∧ r.length ≤ 8 ∧ 0 ≤ sp ∧ 0 ≤ dp ∧ 0 ≤ nn ∧ sp.toNat + nn.toNat ≤ n0 ∧ dp.toNat + nn.toNat ≤ n1
            · rw [if_pos hc5] at hs; cases hs
            · rw [if_neg hc5] at hs; cases hs
      | false =>
        rw [h5] at hs
        dsimp only [cond_false] at hs
        cases hk1 : mt.1[k1]? with
        | none => rw [hk1] at hs; cases hs
        | some e1 =>
          have he1 : mt_ents[k1]? = some e1 := hk1
          rw [hk1] at hs
          dsimp only at hs
          cases hck : ((kd == 2 || kd == 3) && Nat.ble (mm_nargs e1.1) st.length && Nat.ble (st.drop (mm_nargs e1.1)).length 8 && Nat.ble (cu + mm_mc e1.1) (mm_mc I) && Nat.ble (su + mm_ms e1.1) (mm_ms I)) with
          | false => rw [hck] at hs; cases hs
          | true =>
            rw [hck] at hs
            obtain ⟨rfl, rfl, rfl, rfl, rfl, rfl, rfl, rfl⟩ := mm_inj hs
            obtain rfl : e1 = e1' := Option.some.inj (hk1.symm.trans he1')
            simp only [Bool.and_eq_true, Bool.or_eq_true, beq_iff_eq] at hck
            obtain ⟨⟨⟨⟨hkd, hnl⟩, hr8⟩, hmc⟩, hms⟩ := hck
            have hnl := Nat.le_of_ble_eq_true hnl
            have hr8 := Nat.le_of_ble_eq_true hr8
            have hmc := Nat.le_of_ble_eq_true hmc
            have hms := Nat.le_of_ble_eq_true hms
            obtain ⟨hcode, hplain, hcls, hmh, hctor, hrt, hna⟩ := mm_hd hok he1
            have hw := mm_mld hq
            have hown9 : mm_own e1.1 < 9 := mm_own9 he1
            have hlenA : (((st.take (mm_nargs e1.1)).reverse).map (mm_phi base b)).length = mm_nargs e1.1 := by simp; omega
            have hstk : (F0 m pc ls (st.map (mm_phi base b) ++ tl)).stack = (((st.take (mm_nargs e1.1)).reverse).map (mm_phi base b)).reverse ++ ((st.drop (mm_nargs e1.1)).map (mm_phi base b) ++ tl) := by
              rw [← List.map_reverse, List.reverse_reverse, ← List.append_assoc, ← List.map_append, List.take_append_drop]
            have hmet := mm_met l hok ih he1 hrun1 (by simp; omega) (fun w hw => hst w (List.mem_of_mem_take (List.mem_reverse.mp hw))) (mm_run_int mt n k1 _ v1 S1 hrun1)
              (D := D) (cA := cA) (base := base) (b := b) (H00 := H00)
            have hpre := mm_pre (as := (st.take (mm_nargs e1.1)).reverse) hWd hR hz
            have hrin : ∀ w ∈ st.drop (mm_nargs e1.1), mm_inr w := fun w hw => hst w (List.mem_of_mem_drop hw)
            have hws : ∀ w ∈ mm_ws e1.1, w ∈ lw_u := fun w hw => by
              rcases List.mem_cons.mp hw with rfl | hw
              · exact hcode
              · exact hw
            rcases hkd with rfl | rfl
            · rcases ps with _ | ⟨p0, _ | ⟨p1, _ | ⟨p2, ps⟩⟩⟩
              case cons.cons.nil =>
                simp only [mm_okML1, show mt_ents[k1]? = some e1 from he1, Bool.and_eq_true, Bool.not_eq_true', beq_eq_false_iff_ne, decide_eq_true_eq] at hw
                obtain ⟨⟨w0, w1⟩, w3⟩ := hw
                have hfit2 : mm_fit I e1.1 = true := by
                  simp only [mm_fitM, show mm_fm (mt_ml.getD (mm_own I) []) i = some (2, k1, [p0, p1]) from hq, show mt_ents[k1]? = some e1 from he1] at hfit
                  exact hfit
                unfold mm_fit at hfit2
                rw [Bool.and_eq_true] at hfit2
                have hfa := Nat.le_of_ble_eq_true hfit2.1
                have hfb := Nat.le_of_ble_eq_true hfit2.2
                exact mm_backG (r := st.drop (mm_nargs e1.1)) (e1 := e1) hG0 hrin hmc hms kk
                  (va_runS (As := ((st.take (mm_nargs e1.1)).reverse).map (mm_phi base b)) ⟨hexec, hb, hml, hown, hts⟩ hmet (va_cwS (mm_nargs e1.1) hts (mm_gi (fun w hw => by
                    rcases List.mem_append.mp hw with hw | hw
                    · simp only [List.mem_cons, List.not_mem_nil, or_false] at hw
                      rcases hw with rfl | rfl | rfl
                      · exact mm_wd_in w0
                      · exact mm_wd_in w1
                      · rw [hcls]; exact mm_ini hown9
                    · exact hws w hw)) rfl rfl rfl ⟨hmh.1, hmh.2, w3⟩ ⟨by show mm_rf e1.1 + 1 ≤ _; have := hroom.1; omega, by show 8 + (mm_maxL e1.1 + 11) + mm_rl e1.1 ≤ _; have := hroom.2.1; omega⟩)
                    hpre rfl hlenA hl.2.1 hstk (mm_sumle _ hr8 htl) hd ⟨Nat.le_trans hmc hroom.2.2.1, Nat.le_trans hms hroom.2.2.2⟩)
              all_goals exact absurd hw (by simp [mm_okML1, show mt_ents[k1]? = some e1 from he1])
            · rcases ps with _ | ⟨p0, _ | ⟨p1, ps⟩⟩
              case cons.nil =>
                simp only [mm_okML1, show mt_ents[k1]? = some e1 from he1, Bool.and_eq_true, Bool.not_eq_true', beq_eq_false_iff_ne, decide_eq_true_eq] at hw
                obtain ⟨⟨w0, w1⟩, w3⟩ := hw
                have hfit2 : mm_fit I e1.1 = true := by
                  simp only [mm_fitM, show mm_fm (mt_ml.getD (mm_own I) []) i = some (3, k1, [p0]) from hq, show mt_ents[k1]? = some e1 from he1] at hfit
                  exact hfit
                unfold mm_fit at hfit2
                rw [Bool.and_eq_true] at hfit2
                have hfa := Nat.le_of_ble_eq_true hfit2.1
                have hfb := Nat.le_of_ble_eq_true hfit2.2
                exact mm_backG (r := st.drop (mm_nargs e1.1)) (e1 := e1) hG0 hrin hmc hms kk
                  (va_runSN (As := ((st.take (mm_nargs e1.1)).reverse).map (mm_phi base b)) ⟨hexec, hb, hml, hown, hts⟩ hmet ⟨va_cnB (mm_nargs e1.1) hts (mm_gi (fun w hw => hws w hw)) rfl rfl rfl (hWd.2.2.1 _ w0) (hts _ (by rw [hcls]; exact mm_ini hown9)) ⟨hmh.1, hmh.2, w3⟩ ⟨by show mm_rf e1.1 + 1 ≤ _; have := hroom.1; omega, by show 8 + (mm_maxL e1.1 + 11) + mm_rl e1.1 ≤ _; have := hroom.2.1; omega⟩, hts _ (mm_wd_in w1), trivial⟩
                    hpre rfl hlenA hl.2.1 hstk (mm_sumle _ hr8 htl) hd ⟨Nat.le_trans hmc hroom.2.2.1, Nat.le_trans hms hroom.2.2.2⟩)
              all_goals exact absurd hw (by simp [mm_okML1, show mt_ents[k1]? = some e1 from he1])
  | _ => cases hpl
end MMC2
set_option maxHeartbeats 8000000 in
theorem mm_sim (X : Nat × (Nat → Int)) (hok : mm_okAll) : ∀ n, mm_Says X n := by
  intro n
  induction n with
  | zero => intro k e0 pc L st S cu su v S1 he h; cases h
  | succ n ih =>
    intro k e0 pc L st S cu su v S2 he h p l e R s m args below meth c H locs Q D cA base b H00 ls hx hG hend
    unfold mm_run at h
    have hk : mt.1[k]? = some e0 := he
    rw [hk] at h
    dsimp only at h
    cases ha : mm_at e0.2 pc with
    | none => rw [ha] at h; cases h
    | some q =>
      obtain ⟨ins, len, tgt⟩ := q
      rw [ha] at h
      dsimp only at h
      obtain ⟨hd, hf⟩ := mm_row hok he ha
      cases hs : mm_step mt X e0.1 ins len tgt (pc, L, st, S, cu, su) with
      | none => rw [hs] at h; cases h
      | some o =>
        rw [hs] at h
        cases hpl : mm_plain ins with
        | true =>
          rcases o with C' | o
          · exact mm_go hpl hx hG hd hf hs (fun ls' H' locs' hG' => ih k e0 _ _ _ _ _ _ v S2 he h p l e R s m args below meth c H' locs' Q D cA base b H00 ls' hx (by rw [mm_exi_nil] at hG'; exact hG') hend)
          · exact absurd hs (fun z => mm_plain_next hpl z)
        | false =>
          cases o with
          | inr o =>
            rcases o with ⟨k1, as, pc2, L2, st2, Sb, cu2, su2⟩ | ⟨vv, SS⟩
            · dsimp only at h
              cases hk1 : mt.1[k1]? with
              | none => rw [hk1] at h; cases h
              | some e1 =>
                rw [hk1] at h
                dsimp only at h
                cases hrun1 : mm_run mt X n k1 (0, mm_entry e1.1 as, [], Sb, 0, 0) with
                | none => rw [hrun1] at h; cases h
                | some q =>
                  obtain ⟨v1, S1⟩ := q
                  rw [hrun1] at h
                  exact mm_callS hok ih hx hG hd hf hs hk1 hrun1 (Or.inl rfl) (fun ls' H' locs' hG' => ih k e0 _ _ _ _ _ _ v S2 he h p l e R s m args below meth c H' locs' Q D cA base b H00 ls' hx hG' hend)
            · have hx0 := hx
              obtain ⟨hexec, hb, hml, hown, hts, hlk, hct, hroom, hWd⟩ := hx
              obtain ⟨hl, hst, hlr, hR, hn, hc, hsu⟩ := hG
              cases ins with
              | ireturn =>
                simp only [mm_fine, Bool.and_eq_true, beq_iff_eq, decide_eq_true_eq] at hf
                obtain ⟨rfl, hrn⟩ := hf
                rcases st with _ | ⟨z | a, _ | ⟨w, r⟩⟩ <;> try (cases (show (none : Option mm_O) = some (.inr (.inr (vv, SS))) from hs); done)
                have hs : (if cu = mm_mc e0.1 ∧ (mm_bool e0.1 = false ∨ z = 0 ∨ z = 1) then (some (.inr (.inr (some (.inl z), S))) : Option mm_O) else none) = some (.inr (.inr (vv, SS))) := hs
                by_cases hq : cu = mm_mc e0.1 ∧ (mm_bool e0.1 = false ∨ z = 0 ∨ z = 1)
                · rw [if_pos hq] at hs
                  cases hs
                  dsimp only at h
                  cases h
                  have h2 := (hend H locs su pc ls hR (by rw [hn, hq.1]) hsu).1 z rfl (hst _ List.mem_cons_self) hq.2 hrn hd
                  rw [← hq.1] at h2
                  exact h2
                · rw [if_neg hq] at hs
                  cases hs
              | return_ =>
                simp only [mm_fine, Bool.and_eq_true, beq_iff_eq, decide_eq_true_eq] at hf
                obtain ⟨rfl, hrn⟩ := hf
                rcases st with _ | ⟨w, r⟩ <;> try (cases (show (none : Option mm_O) = some (.inr (.inr (vv, SS))) from hs); done)
                have hs : (if cu = mm_mc e0.1 then (some (.inr (.inr (none, S))) : Option mm_O) else none) = some (.inr (.inr (vv, SS))) := hs
                by_cases hq : cu = mm_mc e0.1
                · rw [if_pos hq] at hs
                  cases hs
                  dsimp only at h
                  cases h
                  have h2 := (hend H locs su pc ls hR (by rw [hn, hq]) hsu).2 rfl hrn hd
                  rw [← hq] at h2
                  exact h2
                · rw [if_neg hq] at hs
                  cases hs
              | invokevirtual i =>
                dsimp only [mm_step] at hs
                simp only [mm_nx, Bool.cond_eq_ite] at hs
                (repeat' split at hs) <;> cases hs
              | invokespecial i =>
                dsimp only [mm_step] at hs
                simp only [mm_nx, Bool.cond_eq_ite] at hs
                (repeat' split at hs) <;> cases hs
              | invokestatic i =>
                dsimp only [mm_step] at hs
                simp only [mm_nx, Bool.cond_eq_ite] at hs
                (repeat' split at hs) <;> cases hs
              | _ => cases hpl
          | inl C' =>
          have hx0 := hx
          obtain ⟨hexec, hb, hml, hown, hts, hlk, hct, hroom, hWd⟩ := hx
          have hG0 := hG
          obtain ⟨hl, hst, hlr, hR, hn, hc, hsu⟩ := hG
          refine W.sizeLe (fun hsz => ?_)
          have hz := mm_size hR hWd.2.2.2.2.2.1 hsz hn
          cases ins with
          | ireturn =>
            exfalso
            dsimp only [mm_step] at hs
            (repeat' split at hs) <;> cases hs
          | return_ =>
            exfalso
            dsimp only [mm_step] at hs
            (repeat' split at hs) <;> cases hs
          | invokevirtual i =>
            exfalso
            dsimp only [mm_step] at hs
            simp only [mm_nx, Bool.cond_eq_ite] at hs
            (repeat' split at hs) <;> cases hs
          | invokespecial i =>
            simp only [mm_fine, Bool.and_eq_true, beq_iff_eq] at hf
            obtain ⟨rfl, hfit⟩ := hf
            dsimp only [mm_step] at hs
            cases hq : mm_fm (mt.2.2.1.getD (mm_own e0.1) []) i with
            | none => rw [hq] at hs; cases hs
            | some q =>
              obtain ⟨kd, k1, ps⟩ := q
              rw [hq] at hs
              dsimp only at hs
              rcases st with _ | ⟨z | _ | a, r⟩ <;> try (cases (show (none : Option mm_O) = some (.inl C') from hs); done)
              dsimp only at hs
              have hri := (List.forall_mem_cons.mp hst).2
              cases h4 : (kd == 4) with
              | true =>
                rw [h4] at hs
                dsimp only [cond_true] at hs
                have hkd := eq_of_beq h4
                subst hkd
                cases hr8 : Nat.ble r.length 8 with
                | false => rw [hr8] at hs; cases hs
                | true =>
                  rw [hr8] at hs
                  cases (show (some (.inl (pc + 3, L, r, S, cu, su)) : Option mm_O) = some (.inl C') from hs)
                  have hr8 := Nat.le_of_ble_eq_true hr8
                  have hfit2 : Nat.ble 1 (mm_rf e0.1) = true ∧ Nat.ble 20 (mm_rl e0.1) = true := by
                    simp only [mm_fitM, show mm_fm (mt_ml.getD (mm_own e0.1) []) i = some (4, k1, ps) from hq, Bool.and_eq_true] at hfit
                    exact hfit
                  exact mm_s_objinit hx0 hG0 hd hq ⟨Nat.le_of_ble_eq_true hfit2.1, Nat.le_of_ble_eq_true hfit2.2⟩ hr8 (fun ls' H' locs' hG' => ih k e0 _ _ _ _ _ _ v S2 he h p l e R s m args below meth c H' locs' Q D cA base b H00 ls' hx0 hG' hend)
              | false =>
                rw [h4] at hs
                dsimp only [cond_false] at hs
                exfalso
                simp only [Bool.cond_eq_ite] at hs
                (repeat' split at hs) <;> cases hs
          | invokestatic i =>
            simp only [mm_fine, Bool.and_eq_true, beq_iff_eq] at hf
            obtain ⟨rfl, hfit⟩ := hf
            dsimp only [mm_step] at hs
            cases hq : mm_fm (mt.2.2.1.getD (mm_own e0.1) []) i with
            | none => rw [hq] at hs; cases hs
            | some q =>
              obtain ⟨kd, k1, ps⟩ := q
              rw [hq] at hs
              dsimp only at hs
              cases h5 : (kd == 5) with
              | true =>
                rw [h5] at hs
                dsimp only [cond_true] at hs
                have hkd := eq_of_beq h5
                subst hkd
                rcases st with _ | ⟨nn | _ | _, _ | ⟨dp | _ | _, _ | ⟨_ | _ | d, _ | ⟨sp | _ | _, _ | ⟨_ | _ | a, r⟩⟩⟩⟩⟩ <;> try (cases (show (none : Option mm_O) = some (.inl C') from hs); done)
                dsimp only at hs
                cases hsa : S.1[a]? with
                | none => rw [hsa] at hs; cases hs
                | some qa =>
                  obtain ⟨k0, n0⟩ := qa
                  cases hsd : S.1[d]? with
                  | none => rw [hsa, hsd] at hs; cases hs
                  | some qd =>
                    obtain ⟨k2, n1⟩ := qd
                    rw [hsa, hsd] at hs
                    dsimp only at hs
                    by_cases hc5 : k0 = 10 ∧ k2 = 10 ∧ r.length ≤ 8 ∧ 0 ≤ sp ∧ 0 ≤ dp ∧ 0 ≤ nn ∧ sp.toNat + nn.toNat ≤ n0 ∧ dp.toNat + nn.toNat ≤ n1
                    · rw [if_pos hc5] at hs
                      cases (show (some (.inl (pc + 3, L, r, (S.1, mm_cpy S.2.1 a sp.toNat d dp.toNat nn.toNat, S.2.2), cu, su)) : Option mm_O) = some (.inl C') from hs)
                      have hfit2 : Nat.ble 1 (mm_rf e0.1) = true ∧ Nat.ble 26 (mm_rl e0.1) = true := by
                        simp only [mm_fitM, show mm_fm (mt_ml.getD (mm_own e0.1) []) i = some (5, k1, ps) from hq, Bool.and_eq_true] at hfit
                        exact hfit
                      exact mm_s_arraycopy hx0 hG0 hd hq ⟨Nat.le_of_ble_eq_true hfit2.1, Nat.le_of_ble_eq_true hfit2.2⟩ (by rw [hsa, hc5.1]) (by rw [hsd, hc5.2.1]) hc5.2.2 (fun ls' H' locs' hG' => ih k e0 _ _ _ _ _ _ v S2 he h p l e R s m args below meth c H' locs' Q D cA base b H00 ls' hx0 hG' hend)
                    · rw [if_neg hc5] at hs; cases hs
              | false =>
                rw [h5] at hs
                dsimp only [cond_false] at hs
                exfalso
                simp only [Bool.cond_eq_ite] at hs
                (repeat' split at hs) <;> cases hs
          | _ => cases hpl
