-- THE SIMULATION of the machine of longs
def ml_okAll : Prop := (∀ (k : Nat) (e : mm_I × mm_K), ml_ents[k]? = some e → ml_okB e = true) ∧ ∀ (k : Nat) (e : mm_I × mm_K), k < 2 → ml_ents[k]? = some e → ∃ p, ml_okH e p = true
theorem ml_row {e0 : mm_I × mm_K} {k pc len tgt : Nat} {ins : Instr} (hok : ml_okAll) (he : ml_ents[k]? = some e0) (h : mm_at e0.2 pc = some (ins, len, tgt)) : decode (mm_bytes e0.1) pc = .ok (ins, len) ∧ ml_fine e0.1 (pc, ins, len, tgt) = true := by
  have hp := hok.1 k e0 he
  unfold ml_okB at hp
  have hm := mm_lk_mem h
  have h1 := List.all_eq_true.mp (List.all_eq_true.mp hp _ (mm_getD_in hm)) _ hm
  rw [Bool.and_eq_true, decide_eq_true_eq] at h1
  exact h1
theorem ml_hd {e0 : mm_I × mm_K} {k : Nat} (hok : ml_okAll) (hk : k < 2) (he : ml_ents[k]? = some e0) : ((.code (mm_y e0.1) (mm_bytes e0.1) (mm_maxL e0.1) (mm_ret e0.1)) ∈ lw_u) ∧ plainName (mm_y e0.1).cls = true ∧ (mm_y e0.1).cls = mm_R (mm_own e0.1) ∧ ((mm_y e0.1).cls ≠ "java/lang/invoke/MethodHandle" ∧ (mm_y e0.1).cls ≠ "java/lang/invoke/VarHandle") ∧ mm_ctor e0.1 = false ∧ ((mm_ret e0.1 = some .long ∧ mm_bool e0.1 = false) ∨ (mm_ret e0.1 = some .boolean ∧ mm_bool e0.1 = true)) ∧ mm_nargs e0.1 ≤ mm_maxL e0.1 := by
  obtain ⟨pl, hp⟩ := hok.2 k e0 hk he
  unfold ml_okH at hp
  simp only [Bool.and_eq_true, decide_eq_true_eq] at hp
  obtain ⟨⟨⟨⟨⟨⟨h1, h2⟩, h3⟩, h4⟩, h5⟩, h6⟩, h7⟩ := hp
  exact ⟨mm_wd_in h1, h2, h3, h4, h5, h6, Nat.le_of_ble_eq_true h7⟩
theorem ml_fl_mem {l : List (Nat × Nat × List Nat)} {i : Nat} {x : Nat × List Nat} (h : ml_fl l i = some x) : (i, x) ∈ l := by
  induction l with
  | nil => cases h
  | cons q r ih =>
    unfold ml_fl at h
    cases hq : (q.1 == i) with
    | true =>
      rw [hq] at h
      have h2 : q.2 = x := Option.some.inj h
      have h3 : q.1 = i := eq_of_beq hq
      rw [← h2, ← h3]
      exact List.mem_cons_self
    | false =>
      rw [hq] at h
      exact List.mem_cons_of_mem _ (ih h)
/-- what is known of a call of a method of longs -/
theorem ml_lkd {i k1 : Nat} {ps : List Nat} {e1 : mm_I × mm_K} (h : ml_fl ml_lk i = some (k1, ps)) (he : ml_ents[k1]? = some e1) : (Jvm.Cond.methodLink RL i (mm_y e1.1)) ∈ lw_u ∧ (Jvm.Cond.static (mm_y e1.1)) ∈ lw_u ∧ mm_npar (mm_y e1.1) = some (mm_nargs e1.1) ∧ k1 < 2 := by
  have hm := ml_fl_mem h
  have h1 := ml_okM
  unfold ml_okLK at h1
  have h2 := List.all_eq_true.mp h1 _ hm
  dsimp only at h2
  rcases ps with _ | ⟨p0, _ | ⟨p1, _ | ⟨p2, r⟩⟩⟩ <;> try (cases h2; done)
  rw [he] at h2
  simp only [Bool.and_eq_true, decide_eq_true_eq] at h2
  obtain ⟨⟨⟨g1, g2⟩, g3⟩, g4⟩ := h2
  exact ⟨mm_wd_in g1, mm_wd_in g2, g3, Nat.le_of_ble_eq_true g4⟩
def ml_phi (base b : Nat) : ml_A → Value
  | .inl v => mm_phi base b v
  | .inr v => .long v
def ml_inr : ml_A → Prop
  | .inl v => mm_inr v
  | .inr _ => True
def ml_Qc (D : va_G) (cA : Nat → ClassId) (base b : Nat) (H00 : Heap) (S S1 : mm_S) (v1 : ml_A) : Array Value → State → Outcome → State → Prop := fun _ _ o t => o = .returned (some (ml_phi base b v1)) ∧ mm_Rel D cA base H00 S1 t.heap [] ∧ S1.1.length = S.1.length ∧ ml_inr v1
/-- what a run of the machine of longs says of the machine's walk -/
def ml_Says (X : Nat × (Nat → Int)) (n : Nat) : Prop := ∀ (k : Nat) (e0 : mm_I × mm_K) (pc : Nat) (L : mm_L) (st : List mm_V) (S : mm_S) (cu su : Nat) (ks : List Int64) (ll : List (Nat × Int64)) (v : ml_A) (S1 : mm_S), ml_ents[k]? = some e0 → ml_run X n k ((pc, L, st, S, cu, su), ks, ll) = some (v, S1) →
  ∀ (p : Program) (l : Launch) (e : Env) (R : Room) (s : State) (m : MethodId) (args : Array Value) (below : List Frame) (meth : Method) (c : Code) (H : Heap) (locs : List Loc) (Q : State → Prop) (D : va_G) (cA : Nat → ClassId) (base b : Nat) (H00 : Heap) (ls : Array Slot),
  mm_Cx X e0.1 p R s m args meth c D cA base b H00 → mm_G e0.1 s D cA base b H00 (ml_exv ll) L st S cu su ls H locs →
  (∀ (H1 : Heap) (locs1 : List Loc) (su1 pc1 : Nat) (ls1 : Array Slot), mm_Rel D cA base H00 S1 H1 locs1 → base + S1.1.length = s.heap.size + mm_mc e0.1 → su1 ≤ mm_ms e0.1 →
    (∀ z : Int, v = .inl (.inl z) → mm_inr (.inl z) → (mm_bool e0.1 = false ∨ z = 0 ∨ z = 1) → mm_ret e0.1 = some .boolean → decode (mm_bytes e0.1) pc1 = .ok (.ireturn, 1) → W p l e R s m args below meth c H1 locs1 (mm_mc e0.1) su1 Q (F0 m pc1 ls1 [.int (Int32.ofInt z)])) ∧
    (∀ z : Int64, v = .inr z → mm_ret e0.1 = some .long → decode (mm_bytes e0.1) pc1 = .ok (.lreturn, 1) → W p l e R s m args below meth c H1 locs1 (mm_mc e0.1) su1 Q (F0 m pc1 ls1 [.long z]))) →
  W p l e R s m args below meth c H locs cu su Q (F0 m pc ls (st.map (mm_phi base b) ++ ml_tlv ks))
set_option maxHeartbeats 4000000 in
/-- a callee's contract out of its run -/
theorem ml_met {X : Nat × (Nat → Int)} {n k : Nat} {e0 : mm_I × mm_K} {as : List mm_V} {S S1 : mm_S} {v1 : ml_A} {D : va_G} {cA : Nat → ClassId} {base b : Nat} {H00 : Heap} (l : Launch) (hok : ml_okAll) (hk : k < 2) (hn : ml_Says X n) (he : ml_ents[k]? = some e0) (hrun : ml_run X n k ((0, mm_entry e0.1 as, [], S, 0, 0), [], []) = some (v1, S1)) (has : as.length ≤ mm_maxL e0.1) (hin : ∀ v ∈ as, mm_inr v) (hmc : mm_mc e0.1 = 0) (hms : mm_ms e0.1 = 0) :
    Met l (mm_y e0.1) (mm_ws e0.1) (mm_rm e0.1) (mm_Pc X D cA base b H00 S as) (ml_Qc D cA base b H00 S S1 v1) (mm_mc e0.1) (mm_ms e0.1) (fun q => base ≤ q) := by
  obtain ⟨hcode, hpl, hcls, hmh, hct, hrt, hna⟩ := ml_hd hok hk he
  refine Met.ofW (cc := mm_bytes e0.1) (maxL := mm_maxL e0.1) (ret := mm_ret e0.1) hpl rfl ?_
  intro p e s m args below meth c s1 B hml hv
  obtain ⟨rfl, hR, hWd, hz⟩ := hv
  have hts := atoms_spec (ws := mm_ws e0.1) B.pre
  have hown : s.vm.findClass (mm_R (mm_own e0.1)) = some m.cls := by rw [← hcls]; exact findClass_of_methodNamed B.named
  have hl := lv_entry (as.map (mm_phi base b)) (n := mm_maxL e0.1) (by rw [mm_lg_len]; exact has)
  rw [lg_entry_eq]
  refine hn k e0 0 _ [] S 0 0 [] [] v1 S1 he hrun p l e _ s m _ below meth c s.heap [] _ D cA base b H00 _ ⟨B.exec, B.bytes, hml, hown, fun w hw => hts w (List.mem_cons_of_mem _ hw), B.notSynchronized, fun h => (by rw [hct] at h; cases h), ⟨Nat.le_refl _, Nat.le_refl _, Nat.le_refl _, Nat.le_refl _⟩, hWd⟩ ⟨⟨?_, hl.1, hl.2.1, fun q hq => ?_⟩, fun _ h => absurd h List.not_mem_nil, fun i v hv => ?_, hR, hz, Nat.zero_le _, Nat.zero_le _⟩ (fun H1 locs1 su1 pc1 ls1 hR1 hz1 hsu1 => ⟨fun z hz2 hzi hzb hrn hd => ?_, fun z hz2 hrn hd => ?_⟩)
  · rw [mm_entry, List.length_append, List.length_map, List.length_replicate]
    omega
  · obtain ⟨w, h1, h2⟩ := mm_prs_mem.mp hq
    have h3 := mm_lv_args (base := base) (b := b) as 0 q.1 w (mm_entry_ld h1)
    rw [Nat.zero_add, ← h2] at h3
    exact hl.2.2 q h3
  · exact hin v (List.mem_of_getElem? (mm_entry_ld hv))
  · refine W.widen (k := mm_mc e0.1) (n := mm_ms e0.1) (Nat.le_refl _) hsu1 ?_
    have hqc : ∀ t : State, t.heap = H1 → s.WarmedH t.vm → ml_Qc D cA base b H00 S S1 v1 (as.map (mm_phi base b)).toArray s (.returned (some (.int (Int32.ofInt z)))) t := fun t ht _ => ⟨by rw [hz2]; rfl, by rw [ht]; exact hR1.off (fun _ h => absurd h List.not_mem_nil), by omega, by rw [hz2]; exact hzi⟩
    have hbl : mm_bool e0.1 = true := by
      rcases hrt with ⟨h, -⟩ | ⟨-, h⟩
      · rw [hrn] at h; cases h
      · exact h
    · exact W.zret B.exec B.bytes (B.returns.trans hrn) (mm_nar_bool (hzb.resolve_left (by rw [hbl]; decide))).1 hqc hR1.2.1.2.2 hd B.notSynchronized
  · refine W.widen (k := mm_mc e0.1) (n := mm_ms e0.1) (Nat.le_refl _) hsu1 ?_
    exact W.lret B.exec B.bytes (B.returns.trans hrn) (fun t ht _ => ⟨by rw [hz2]; rfl, by rw [ht]; exact hR1.off (fun _ h => absurd h List.not_mem_nil), by omega, by rw [hz2]; trivial⟩) hR1.2.1.2.2 hd B.notSynchronized
section MLC
variable {p : Program} {l : Launch} {e : Env} {R : Room} {s : State} {m : MethodId} {args : Array Value} {below : List Frame} {meth : Method} {c : Code} {H : Heap} {locs : List Loc} {Q : State → Prop}
variable {X : Nat × (Nat → Int)} {I : mm_I} {D : va_G} {cA : Nat → ClassId} {base b : Nat} {H00 : Heap} {pc len tgt : Nat} {L : mm_L} {st : List mm_V} {S : mm_S} {cu su : Nat} {ls : Array Slot} {ks : List Int64} {ll : List (Nat × Int64)}
set_option maxHeartbeats 4000000 in
/-- a call of a method of longs -/
theorem ml_callS {n k1 i : Nat} {ps : List Nat} {S1 : mm_S} {e1 : mm_I × mm_K} {v1 : ml_A} (hok : ml_okAll) (ih : ml_Says X n) (hx : mm_Cx X I p R s m args meth c D cA base b H00) (hG : mm_G I s D cA base b H00 (ml_exv ll) L st S cu su ls H locs) (h7 : mm_own I = 7) (hd : decode (mm_bytes I) pc = .ok (.invokestatic i, len)) (hf : ml_fine I (pc, .invokestatic i, len, tgt) = true) (hlk0 : ml_fl ml_lk i = some (k1, ps)) (he1 : ml_ents[k1]? = some e1)
    (hb : (Nat.ble (mm_nargs e1.1) st.length && Nat.ble ((st.drop (mm_nargs e1.1)).length + 2 * ks.length) 8 && mm_mc e1.1 == 0 && mm_ms e1.1 == 0) = true) (hrun1 : ml_run X n k1 ((0, mm_entry e1.1 (st.take (mm_nargs e1.1)).reverse, [], S, 0, 0), [], []) = some (v1, S1))
    (kk : ∀ (H' : Heap) (locs' : List Loc), mm_Rel D cA base H00 S1 H' locs' → base + S1.1.length = s.heap.size + cu → ml_inr v1 → W p l e R s m args below meth c H' locs' cu su Q (F0 m (pc + len) ls (ml_phi base b v1 :: ((st.drop (mm_nargs e1.1)).map (mm_phi base b) ++ ml_tlv ks)))) : W p l e R s m args below meth c H locs cu su Q (F0 m pc ls (st.map (mm_phi base b) ++ ml_tlv ks)) := by
  obtain ⟨hexec, hbb, hml, hown, hts, hlk, hct, hroom, hWd⟩ := hx
  have hG0 := hG
  obtain ⟨hl, hst, hlr, hR, hn, hc, hsu⟩ := hG
  refine W.sizeLe (fun hsz => ?_)
  have hz := mm_size hR hWd.2.2.2.2.2.1 hsz hn
  unfold ml_fine at hf
  dsimp only at hf
  rw [hlk0] at hf
  dsimp only at hf
  rw [he1] at hf
  simp only [Bool.and_eq_true, beq_iff_eq] at hf hb
  obtain ⟨rfl, hfit2⟩ := hf
  obtain ⟨⟨⟨hnl, hr8⟩, hmc⟩, hms⟩ := hb
  have hnl := Nat.le_of_ble_eq_true hnl
  have hr8 := Nat.le_of_ble_eq_true hr8
  obtain ⟨w0, w1, w3, hk2⟩ := ml_lkd hlk0 he1
  obtain ⟨hcode, hplain, hcls, hmh, hctor, hrt, hna⟩ := ml_hd hok hk2 he1
  unfold mm_fit at hfit2
  rw [Bool.and_eq_true] at hfit2
  have hfa := Nat.le_of_ble_eq_true hfit2.1
  have hfb := Nat.le_of_ble_eq_true hfit2.2
  have hown9 : mm_own e1.1 < 9 := by
    have h1 : ml_ents.all (fun e => Nat.blt (mm_own e.1) 9) = true := by decide +kernel
    exact Nat.le_of_ble_eq_true (List.all_eq_true.mp h1 e1 (List.mem_of_getElem? he1))
  have hlenA : (((st.take (mm_nargs e1.1)).reverse).map (mm_phi base b)).length = mm_nargs e1.1 := by simp; omega
  have hstk : (F0 m pc ls (st.map (mm_phi base b) ++ ml_tlv ks)).stack = (((st.take (mm_nargs e1.1)).reverse).map (mm_phi base b)).reverse ++ ((st.drop (mm_nargs e1.1)).map (mm_phi base b) ++ ml_tlv ks) := by
    rw [← List.map_reverse, List.reverse_reverse, ← List.append_assoc, ← List.map_append, List.take_append_drop]
  have hmet := ml_met l hok hk2 ih he1 hrun1 (by simp; omega) (fun w hw => hst w (List.mem_of_mem_take (List.mem_reverse.mp hw))) hmc hms
    (D := D) (cA := cA) (base := base) (b := b) (H00 := H00)
  have hpre := mm_pre (as := (st.take (mm_nargs e1.1)).reverse) hWd hR hz
  have hws : ∀ w ∈ mm_ws e1.1, w ∈ lw_u := fun w hw => by
    rcases List.mem_cons.mp hw with rfl | hw
    · exact hcode
    · exact hw
  rw [show RL = mm_R (mm_own I) by rw [h7]; rfl] at w0
  have hcall := va_runS (As := ((st.take (mm_nargs e1.1)).reverse).map (mm_phi base b)) (p := p) (l := l) (e := e) (R := R) (s := s) (m := m) (args := args) (below := below) (meth := meth) (c := c) (H := H) (locs := locs) (cells := cu) (slots := su) ⟨hexec, hbb, hml, hown, hts⟩ hmet (va_cwS (mm_nargs e1.1) hts (mm_gi (fun w hw => by
      rcases List.mem_append.mp hw with hw | hw
      · simp only [List.mem_cons, List.not_mem_nil, or_false] at hw
        rcases hw with rfl | rfl | rfl
        · exact w0
        · exact w1
        · rw [hcls]; exact mm_ini hown9
      · exact hws w hw)) rfl rfl rfl ⟨hmh.1, hmh.2, w3⟩ ⟨by show mm_rf e1.1 + 1 ≤ _; have := hroom.1; omega, by show 8 + (mm_maxL e1.1 + 11) + mm_rl e1.1 ≤ _; have := hroom.2.1; omega⟩)
      hpre rfl hlenA hl.2.1 hstk (mm_sumle _ (by omega) (Or.inr (by rw [ml_tlv_sum]; exact hr8))) hd ⟨by have := hroom.2.2.1; omega, by have := hroom.2.2.2; omega⟩
  refine mm_callG hcall (fun v2 st0 t locs1 h0 hq hl2 => ?_)
  obtain ⟨hv, hR1, hlen, hin⟩ := hq
  cases hv
  have hl1 : ∀ q ∈ locs1, base ≤ q.base := fun q hq => (hl2 q hq).elim (fun h => hG0.2.2.2.1.2.1.2.2 q h) id
  have h2 := kk t.heap locs1 (hR1.off hl1) (by omega) hin
  rw [hmc, hms]
  exact h2
end MLC
set_option maxHeartbeats 8000000 in
theorem ml_sim (X : Nat × (Nat → Int)) (hok : mm_okAll) (hokL : ml_okAll) : ∀ n, ml_Says X n := by
  intro n
  induction n with
  | zero => intro k e0 pc L st S cu su ks ll v S1 he h; cases h
  | succ n ih =>
    intro k e0 pc L st S cu su ks ll v S1 he h p l e R s m args below meth c H locs Q D cA base b H00 ls hx hG hend
    unfold ml_run at h
    rw [he] at h
    dsimp only at h
    cases ha : mm_at e0.2 pc with
    | none => rw [ha] at h; cases h
    | some q =>
      obtain ⟨ins, len, tgt⟩ := q
      rw [ha] at h
      dsimp only at h
      obtain ⟨hd, hf⟩ := ml_row hokL he ha
      cases hc : ml_call ins with
      | some k1 =>
        rw [hc] at h
        dsimp only at h
        cases hk1 : ml_ents[k1]? with
        | none => rw [hk1] at h; cases h
        | some e1 =>
          rw [hk1] at h
          dsimp only at h
          cases hb : (Nat.ble (mm_nargs e1.1) st.length && Nat.ble ((st.drop (mm_nargs e1.1)).length + 2 * ks.length) 8 && mm_mc e1.1 == 0 && mm_ms e1.1 == 0) with
          | false => rw [hb] at h; cases h
          | true =>
            rw [hb] at h
            dsimp only [cond_true] at h
            obtain ⟨i, ps, rfl, hlk0⟩ : ∃ (i : Nat) (ps : List Nat), ins = .invokestatic i ∧ ml_fl ml_lk i = some (k1, ps) := by
              cases ins with
              | invokestatic i =>
                unfold ml_call at hc
                dsimp only at hc
                cases hl : ml_fl ml_lk i with
                | none => rw [hl] at hc; cases hc
                | some q => rw [hl] at hc; cases hc; exact ⟨i, q.2, rfl, hl⟩
              | _ => cases hc
            have h7 : mm_own e0.1 = 7 := by
              have h1 : ml_ents.all (fun e => mm_own e.1 == 7) = true := by decide +kernel
              exact eq_of_beq (List.all_eq_true.mp h1 e0 (List.mem_of_getElem? he))
            have hrin : ∀ w ∈ st.drop (mm_nargs e1.1), mm_inr w := fun w hw => hG.2.1 w (List.mem_of_mem_drop hw)
            cases hr : ml_run X n k1 ((0, mm_entry e1.1 (st.take (mm_nargs e1.1)).reverse, [], S, 0, 0), [], []) with
            | none => rw [hr] at h; cases h
            | some q =>
              obtain ⟨v2 | v2, S2⟩ := q
              · rw [hr] at h
                dsimp only at h
                refine ml_callS hokL ih hx hG h7 hd hf hlk0 hk1 hb hr (fun H' locs' hR' hz' hin => ?_)
                exact ih k e0 _ _ _ _ _ _ _ _ v S1 he h p l e R s m args below meth c H' locs' Q D cA base b H00 ls hx ⟨hG.1, mm_all_cons hin hrin, hG.2.2.1, hR', hz', hG.2.2.2.2.2⟩ hend
              · rw [hr] at h
                dsimp only at h
                cases hdr : st.drop (mm_nargs e1.1) with
                | cons a r => rw [hdr] at h; cases h
                | nil =>
                  rw [hdr] at h
                  dsimp only at h
                  refine ml_callS hokL ih hx hG h7 hd hf hlk0 hk1 hb hr (fun H' locs' hR' hz' hin => ?_)
                  rw [hdr]
                  exact ih k e0 _ _ _ _ _ _ _ _ v S1 he h p l e R s m args below meth c H' locs' Q D cA base b H00 ls hx ⟨hG.1, fun _ z => absurd z List.not_mem_nil, hG.2.2.1, hR', hz', hG.2.2.2.2.2⟩ hend
      | none =>
        rw [hc] at h
        dsimp only at h
        cases hl : ml_isl ins with
        | true =>
          rw [hl] at h
          dsimp only [cond_true] at h
          cases hs : ml_step e0.1 ins len ((pc, L, st, S, cu, su), ks, ll) with
          | none => rw [hs] at h; cases h
          | some F =>
            rw [hs] at h
            obtain ⟨⟨pc2, L2, st2, S2, cu2, su2⟩, ks2, ll2⟩ := F
            exact ml_go hl hx hG hd hf hs (fun ls' H' locs' hG' => ih k e0 _ _ _ _ _ _ _ _ v S1 he h p l e R s m args below meth c H' locs' Q D cA base b H00 ls' hx hG' hend)
        | false =>
          rw [hl] at h
          dsimp only [cond_false] at h
          cases hr : ml_isr ins with
          | true =>
            rw [hr] at h
            dsimp only [cond_true] at h
            cases ins <;> try (cases hr; done)
            have hf : (len == 1 && decide (mm_ret e0.1 = some .long)) = true := hf
            simp only [Bool.and_eq_true, beq_iff_eq, decide_eq_true_eq] at hf
            obtain ⟨rfl, hret⟩ := hf
            rcases st with _ | ⟨v0, r⟩
            · rcases ks with _ | ⟨z, _ | ⟨z2, r⟩⟩ <;> try (cases h; done)
              dsimp only at h
              by_cases hq : cu = mm_mc e0.1
              · rw [if_pos hq] at h
                cases h
                have h2 := (hend H locs su pc ls hG.2.2.2.1 (by rw [hG.2.2.2.2.1, hq]) hG.2.2.2.2.2.2).2 z rfl hret hd
                rw [← hq] at h2
                exact h2
              · rw [if_neg hq] at h; cases h
            · cases h
          | false =>
            rw [hr] at h
            dsimp only [cond_false] at h
            have hf2 := ml_fine_mm hc hl hf
            cases hs : mm_step mt X e0.1 ins len tgt (pc, L, st, S, cu, su) with
            | none => rw [hs] at h; cases h
            | some o =>
              rw [hs] at h
              rcases o with C' | ⟨k1, as, pc2, L2, st2, S2, cu2, su2⟩ | ⟨vv, SS⟩
              · dsimp only at h
                cases hp : mm_plain ins with
                | false => rw [hp] at h; cases h
                | true =>
                  rw [hp] at h
                  dsimp only [cond_true] at h
                  obtain ⟨pc2, L2, st2, S2, cu2, su2⟩ := C'
                  exact mm_go (tl := ml_tlv ks) hp hx hG hd hf2 hs (fun ls' H' locs' hG' => ih k e0 _ _ _ _ _ _ _ _ v S1 he h p l e R s m args below meth c H' locs' Q D cA base b H00 ls' hx (by rw [ml_exi] at hG'; exact hG') hend)
              · dsimp only at h
                cases hb : Nat.ble (st2.length + 2 * ks.length) 8 with
                | false => rw [hb] at h; cases h
                | true =>
                  rw [hb] at h
                  dsimp only [cond_true] at h
                  cases hk1 : mt.1[k1]? with
                  | none => rw [hk1] at h; cases h
                  | some e1 =>
                    rw [hk1] at h
                    dsimp only at h
                    cases hr1 : mm_run mt X n k1 (0, mm_entry e1.1 as, [], S2, 0, 0) with
                    | none => rw [hr1] at h; cases h
                    | some q =>
                      obtain ⟨v1, S3⟩ := q
                      rw [hr1] at h
                      dsimp only at h
                      exact mm_callS (tl := ml_tlv ks) hok (mm_sim X hok n) hx hG hd hf2 hs hk1 hr1 (Or.inr (by rw [ml_tlv_sum]; exact Nat.le_of_ble_eq_true hb)) (fun ls' H' locs' hG' => ih k e0 _ _ _ _ _ _ _ _ v S1 he h p l e R s m args below meth c H' locs' Q D cA base b H00 ls' hx hG' hend)
              · rcases vv with _ | vv
                · cases h
                · dsimp only at h
                  rcases ks with _ | ⟨z, r⟩
                  · cases h
                    cases hpl : mm_plain ins with
                    | true => exact absurd hs (fun z => mm_plain_next hpl z)
                    | false =>
                      cases ins with
                      | ireturn =>
                        have hf : (len == 1 && decide (mm_ret e0.1 = some .boolean)) = true := hf
                        simp only [Bool.and_eq_true, beq_iff_eq, decide_eq_true_eq] at hf
                        obtain ⟨rfl, hret⟩ := hf
                        rcases st with _ | ⟨z | a, _ | ⟨w, r⟩⟩ <;> try (cases (show (none : Option mm_O) = _ from hs); done)
                        have hs : (if cu = mm_mc e0.1 ∧ (mm_bool e0.1 = false ∨ z = 0 ∨ z = 1) then (some (.inr (.inr (some (.inl z), S))) : Option mm_O) else none) = some (.inr (.inr (some vv, S1))) := hs
                        by_cases hq : cu = mm_mc e0.1 ∧ (mm_bool e0.1 = false ∨ z = 0 ∨ z = 1)
                        · rw [if_pos hq] at hs
                          cases hs
                          have h2 := (hend H locs su pc ls hG.2.2.2.1 (by rw [hG.2.2.2.2.1, hq.1]) hG.2.2.2.2.2.2).1 z rfl (hG.2.1 _ List.mem_cons_self) hq.2 hret hd
                          rw [← hq.1] at h2
                          exact h2
                        · rw [if_neg hq] at hs; cases hs
                      | return_ => cases hf
                      | invokevirtual i =>
                        exfalso
                        dsimp only [mm_step] at hs
                        simp only [mm_nx, Bool.cond_eq_ite] at hs
                        (repeat' split at hs) <;> cases hs
                      | invokespecial i =>
                        exfalso
                        dsimp only [mm_step] at hs
                        simp only [mm_nx, Bool.cond_eq_ite] at hs
                        (repeat' split at hs) <;> cases hs
                      | invokestatic i =>
                        exfalso
                        dsimp only [mm_step] at hs
                        simp only [mm_nx, Bool.cond_eq_ite] at hs
                        (repeat' split at hs) <;> cases hs
                      | _ => cases hpl
                  · cases h
