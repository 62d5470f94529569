-- THE SIMULATION: a run of the small machine is one of the machine
theorem mm_lk_mem {l : List (Nat × Instr × Nat × Nat)} {pc : Nat} {x : Instr × Nat × Nat} (h : mm_lk l pc = some x) : (pc, x) ∈ l := by
  induction l with
  | nil => cases h
  | cons q r ih =>
    unfold mm_lk at h
    cases hq : (q.1 == pc) with
    | true =>
      rw [hq] at h
      have h2 : q.2 = x := Option.some.inj h
      have h3 : q.1 = pc := eq_of_beq hq
      rw [← h2, ← h3]
      exact List.mem_cons_self
    | false =>
      rw [hq] at h
      exact List.mem_cons_of_mem _ (ih h)
theorem mm_getD_in {α : Type} {l : List (List α)} {o : Nat} {x : α} (h : x ∈ l.getD o []) : l.getD o [] ∈ l := by
  have ho := mm_getD_mem h
  rw [List.getD_eq_getElem?_getD, List.getElem?_eq_getElem ho]
  exact List.getElem_mem ho
/-- all rows of all methods are checked -/
def mm_okAll : Prop := ∀ e ∈ mt_ents, ∃ p, mm_okE e p = true
/-- what a checked method's row says -/
theorem mm_row {e0 : mm_I × mm_K} {k pc len tgt : Nat} {ins : Instr} (hok : mm_okAll) (he : mt_ents[k]? = some e0) (h : mm_at e0.2 pc = some (ins, len, tgt)) : decode (mm_bytes e0.1) pc = .ok (ins, len) ∧ mm_fine e0.1 (pc, ins, len, tgt) = true := by
  obtain ⟨pl, hp⟩ := hok e0 (List.mem_of_getElem? he)
  unfold mm_okE at hp
  rw [Bool.and_eq_true] at hp
  have hm := mm_lk_mem h
  have h1 := List.all_eq_true.mp (List.all_eq_true.mp hp.1 _ (mm_getD_in hm)) _ hm
  rw [Bool.and_eq_true, decide_eq_true_eq] at h1
  exact h1
theorem mm_hd {e0 : mm_I × mm_K} {k : Nat} (hok : mm_okAll) (he : mt_ents[k]? = some e0) : ((.code (mm_y e0.1) (mm_bytes e0.1) (mm_maxL e0.1) (mm_ret e0.1)) ∈ lw_u) ∧ plainName (mm_y e0.1).cls = true ∧ (mm_y e0.1).cls = mm_R (mm_own e0.1) ∧ ((mm_y e0.1).cls ≠ "java/lang/invoke/MethodHandle" ∧ (mm_y e0.1).cls ≠ "java/lang/invoke/VarHandle") ∧ (mm_ctor e0.1 = true → (mm_y e0.1).name = "<init>") ∧ (mm_ret e0.1 = none ∨ mm_ret e0.1 = some .int ∨ (mm_ret e0.1 = some .boolean ∧ mm_bool e0.1 = true)) ∧ mm_nargs e0.1 ≤ mm_maxL e0.1 := by
  obtain ⟨pl, hp⟩ := hok e0 (List.mem_of_getElem? he)
  unfold mm_okE mm_okH at hp
  simp only [Bool.and_eq_true, Bool.or_eq_true, beq_iff_eq, decide_eq_true_eq] at hp
  obtain ⟨-, ⟨⟨⟨⟨⟨⟨⟨h1, h2⟩, h3⟩, h4⟩, h5⟩, h6⟩, h7⟩, h8⟩⟩ := hp
  exact ⟨mm_wd_in h1, h2, h3, h4, h5, h7, Nat.le_of_ble_eq_true h8⟩
theorem mm_gi {wl : List Jvm.Cond} (h : ∀ w ∈ wl, w ∈ lw_u) : GoodIn lw_u wl := fun w hw => ⟨h w hw, (lw_u_goodIn w (h w hw)).2⟩
theorem mm_ini {o : Nat} (h : o < 9) : (.initialized (mm_R o)) ∈ lw_u := by
  rcases (show o = 0 ∨ o = 1 ∨ o = 2 ∨ o = 3 ∨ o = 4 ∨ o = 5 ∨ o = 6 ∨ o = 7 ∨ o = 8 by omega) with rfl | rfl | rfl | rfl | rfl | rfl | rfl | rfl | rfl
  · exact mm_wd_in (p := 22) (by decide +kernel)
  · exact mm_wd_in (p := 21) (by decide +kernel)
  · exact mm_wd_in (p := 19) (by decide +kernel)
  · exact mm_wd_in (p := 20) (by decide +kernel)
  · exact mm_wd_in (p := 18) (by decide +kernel)
  · exact mm_wd_in (p := 17) (by decide +kernel)
  · exact mm_wd_in (p := 17) (by decide +kernel)
  · exact mm_wd_in (p := 16) (by decide +kernel)
  · exact mm_wd_in (p := 24) (by decide +kernel)
theorem mm_clsR {o : Nat} (h : o < 7) : ∃ (T : u_T) (N : Nat), classes[o]? = some (mm_R o, T, N) := by
  rcases (show o = 0 ∨ o = 1 ∨ o = 2 ∨ o = 3 ∨ o = 4 ∨ o = 5 ∨ o = 6 by omega) with rfl | rfl | rfl | rfl | rfl | rfl | rfl <;> exact ⟨_, _, rfl⟩
theorem mm_Rel.off {D : va_G} {cA : Nat → ClassId} {base : Nat} {H00 : Heap} {S : mm_S} {H : Heap} {locs locs1 : List Loc} (h : mm_Rel D cA base H00 S H locs) (hl : ∀ q ∈ locs1, base ≤ q.base) : mm_Rel D cA base H00 S H locs1 := ⟨h.1, ⟨h.2.1.1, h.2.1.2.1, hl⟩, h.2.2⟩
/-- the heap ends behind the last object -/
theorem mm_size {D : va_G} {cA : Nat → ClassId} {base k : Nat} {H00 : Heap} {S : mm_S} {H : Heap} {locs : List Loc} (h : mm_Rel D cA base H00 S H locs) (hb : H00.size = base) (hz : H.size ≤ k) (hk : base + S.1.length = k) : base + S.1.length = H.size := by
  rcases Nat.eq_zero_or_pos S.1.length with h0 | h0
  · have := h.2.1.1
    omega
  · obtain ⟨sh, hsh⟩ : ∃ sh, S.1[S.1.length - 1]? = some sh := ⟨_, List.getElem?_eq_getElem (by omega)⟩
    have h1 := (h.1 _ _ (mm_wld_at (cA := cA) (base := base) hsh)).lt
    have h1 : base + (S.1.length - 1) < H.size := h1
    omega
theorem mm_lv_args {base b : Nat} (as : List mm_V) : ∀ (k i : Nat) (v : mm_V), as[i]? = some v → (k + i, mm_phi base b v) ∈ lv_args k (as.map (mm_phi base b)) := by
  induction as with
  | nil => intro k i v h; simp at h
  | cons a r ih =>
    intro k i v h
    rw [List.map_cons, lv_args, mm_phi_cat, if_neg (by decide)]
    cases i with
    | zero =>
      rw [List.getElem?_cons_zero] at h
      cases h
      exact List.mem_cons_self
    | succ i =>
      rw [List.getElem?_cons_succ] at h
      have := ih (k + 1) i v h
      rw [show k + 1 + i = k + (i + 1) by omega] at this
      exact List.mem_cons_of_mem _ this
theorem mm_entry_ld {I : mm_I} {as : List mm_V} {i : Nat} {v : mm_V} (h : mm_ld (mm_entry I as) i = some v) : as[i]? = some v := by
  unfold mm_ld mm_entry at h
  rcases Nat.lt_or_ge i as.length with hl | hl
  · rw [List.getElem?_append_left (by simpa using hl), List.getElem?_map] at h
    cases ha : as[i]? with
    | none => rw [ha] at h; cases h
    | some w => rw [ha] at h; cases h; rfl
  · rw [List.getElem?_append_right (by simpa using hl), List.getElem?_replicate] at h
    split at h
    · rename_i hq
      split at hq
      · cases hq; cases h
      · cases hq
    · cases h
theorem mm_lg_len {base b : Nat} (as : List mm_V) : (lg_sl (as.map (mm_phi base b))).length = as.length := by
  induction as with
  | nil => rfl
  | cons a r ih =>
    have e1 : lg_sl ((a :: r).map (mm_phi base b)) = .val (mm_phi base b a) :: lg_sl (r.map (mm_phi base b)) := by
      simp [lg_sl, mm_phi_cat]
    rw [e1, List.length_cons, ih, List.length_cons]
theorem mm_callG {p : Program} {l : Launch} {e : Env} {R : Room} {s : State} {m : MethodId} {args : Array Value} {below : List Frame} {meth : Method} {c : Code} {H : Heap} {locs : List Loc} {cells slots mc ms : Nat} {Q : State → Prop} {g : JFrame} {rest : List Value} {Qa : State → Outcome → State → Prop} {free : Addr → Prop}
    (hr : va_Run p l e R s m args below meth c H locs cells slots mc ms g rest Qa free)
    (kk : ∀ (v : Option Value) (st0 t : State) (locs1 : List Loc), st0.heap = H → Qa st0 (.returned v) t → (∀ q ∈ locs1, q ∈ locs ∨ free q.base) → W p l e R s m args below meth c t.heap locs1 (cells + mc) (slots + ms) Q { g with pc := g.pc + 3, stack := v.toList ++ rest }) : W p l e R s m args below meth c H locs cells slots Q g := by
  intro T hT X
  obtain ⟨v, st0, t, T', L, h0, X', hL, e1, e2, hq, st⟩ := hr T hT X
  obtain ⟨t2, a1, b1⟩ := kk v st0 t (locs ++ L) h0 hq (fun q hq => (List.mem_append.mp hq).imp id (hL q)) T' e1 X'
  exact ⟨t2, st t2 a1, b1⟩
/-- a callee's start and end -/
def mm_Pc (X : Nat × (Nat → Int)) (D : va_G) (cA : Nat → ClassId) (base b : Nat) (H00 : Heap) (S : mm_S) (as : List mm_V) : Array Value → State → Prop := fun av U => av = (as.map (mm_phi base b)).toArray ∧ mm_Rel D cA base H00 S U.heap [] ∧ mm_Wd X D cA base b H00 U ∧ base + S.1.length = U.heap.size
def mm_Qc (D : va_G) (cA : Nat → ClassId) (base b : Nat) (H00 : Heap) (S S1 : mm_S) (v1 : Option mm_V) (mc : Nat) : Array Value → State → Outcome → State → Prop := fun _ _ o t => o = .returned (v1.map (mm_phi base b)) ∧ mm_Rel D cA base H00 S1 t.heap [] ∧ S1.1.length = S.1.length + mc ∧ ∀ v, v1 = some v → mm_inr v
def mm_ws (I : mm_I) : List Jvm.Cond := .code (mm_y I) (mm_bytes I) (mm_maxL I) (mm_ret I) :: lw_u
def mm_rm (I : mm_I) : Room := { frames := mm_rf I, cells := mm_mc I, slots := mm_ms I, locals := mm_rl I }
theorem mm_Pc_blind {X : Nat × (Nat → Int)} {D : va_G} {cA : Nat → ClassId} {base b : Nat} {H00 : Heap} {S : mm_S} {as : List mm_V} : FrameBlind (mm_Pc X D cA base b H00 S as) := fun a U g mk q => ⟨q.1, q.2.1, mm_Wd.same rfl q.2.2.1, q.2.2.2⟩
/-- what the small machine's run says of the machine's walk: see mm_sim -/
def mm_Says (X : Nat × (Nat → Int)) (n : Nat) : Prop := ∀ (k : Nat) (e0 : mm_I × mm_K) (pc : Nat) (L : mm_L) (st : List mm_V) (S : mm_S) (cu su : Nat) (v : Option mm_V) (S1 : mm_S), mt_ents[k]? = some e0 → mm_run mt X n k (pc, L, st, S, cu, su) = some (v, S1) →
  ∀ (p : Program) (l : Launch) (e : Env) (R : Room) (s : State) (m : MethodId) (args : Array Value) (below : List Frame) (meth : Method) (c : Code) (H : Heap) (locs : List Loc) (Q : State → Prop) (D : va_G) (cA : Nat → ClassId) (base b : Nat) (H00 : Heap) (ls : Array Slot),
  mm_Cx X e0.1 p R s m args meth c D cA base b H00 → mm_G e0.1 s D cA base b H00 [] L st S cu su ls H locs →
  (∀ (H1 : Heap) (locs1 : List Loc) (su1 pc1 : Nat) (ls1 : Array Slot), mm_Rel D cA base H00 S1 H1 locs1 → base + S1.1.length = s.heap.size + mm_mc e0.1 → su1 ≤ mm_ms e0.1 →
    (∀ z : Int, v = some (.inl z) → mm_inr (.inl z) → (mm_bool e0.1 = false ∨ z = 0 ∨ z = 1) → mm_ret e0.1 ≠ none → decode (mm_bytes e0.1) pc1 = .ok (.ireturn, 1) → W p l e R s m args below meth c H1 locs1 (mm_mc e0.1) su1 Q (F0 m pc1 ls1 [.int (Int32.ofInt z)])) ∧
    (v = none → mm_ret e0.1 = none → decode (mm_bytes e0.1) pc1 = .ok (.return_, 1) → W p l e R s m args below meth c H1 locs1 (mm_mc e0.1) su1 Q (F0 m pc1 ls1 []))) →
  W p l e R s m args below meth c H locs cu su Q (F0 m pc ls (st.map (mm_phi base b) ++ []))
set_option maxHeartbeats 4000000 in
/-- a callee's contract out of its run -/
theorem mm_met {X : Nat × (Nat → Int)} {n k : Nat} {e0 : mm_I × mm_K} {as : List mm_V} {S S1 : mm_S} {v1 : Option mm_V} {D : va_G} {cA : Nat → ClassId} {base b : Nat} {H00 : Heap} (l : Launch) (hok : mm_okAll) (hn : mm_Says X n) (he : mt_ents[k]? = some e0) (hrun : mm_run mt X n k (0, mm_entry e0.1 as, [], S, 0, 0) = some (v1, S1)) (has : as.length ≤ mm_maxL e0.1) (hin : ∀ v ∈ as, mm_inr v) (hv1 : v1 = none ∨ ∃ z, v1 = some (.inl z)) :
    Met l (mm_y e0.1) (mm_ws e0.1) (mm_rm e0.1) (mm_Pc X D cA base b H00 S as) (mm_Qc D cA base b H00 S S1 v1 (mm_mc e0.1)) (mm_mc e0.1) (mm_ms e0.1) (fun q => base ≤ q) := by
  obtain ⟨hcode, hpl, hcls, hmh, hct, hrt, hna⟩ := mm_hd hok he
  refine Met.ofW (cc := mm_bytes e0.1) (maxL := mm_maxL e0.1) (ret := mm_ret e0.1) hpl rfl ?_
  intro p e s m args below meth c s1 B hml hv
  obtain ⟨rfl, hR, hWd, hz⟩ := hv
  have hts := atoms_spec (ws := mm_ws e0.1) B.pre
  have hown : s.vm.findClass (mm_R (mm_own e0.1)) = some m.cls := by rw [← hcls]; exact findClass_of_methodNamed B.named
  have hl := lv_entry (as.map (mm_phi base b)) (n := mm_maxL e0.1) (by rw [mm_lg_len]; exact has)
  rw [lg_entry_eq]
  refine hn k e0 0 _ [] S 0 0 v1 S1 he hrun p l e _ s m _ below meth c s.heap [] _ D cA base b H00 _ ⟨B.exec, B.bytes, hml, hown, fun w hw => hts w (List.mem_cons_of_mem _ hw), B.notSynchronized, fun h => (name_of_methodNamed B.named B.method).1.trans (hct h), ⟨Nat.le_refl _, Nat.le_refl _, Nat.le_refl _, Nat.le_refl _⟩, hWd⟩ ⟨⟨?_, hl.1, hl.2.1, fun q hq => ?_⟩, fun _ h => absurd h List.not_mem_nil, fun i v hv => ?_, hR, hz, Nat.zero_le _, Nat.zero_le _⟩ (fun H1 locs1 su1 pc1 ls1 hR1 hz1 hsu1 => ⟨fun z hz2 hzi hzb hrn hd => ?_, fun hz2 hrn hd => ?_⟩)
  · rw [mm_entry, List.length_append, List.length_map, List.length_replicate]
    omega
  · obtain ⟨w, h1, h2⟩ := mm_prs_mem.mp hq
    have h3 := mm_lv_args (base := base) (b := b) as 0 q.1 w (mm_entry_ld h1)
    rw [Nat.zero_add, ← h2] at h3
    exact hl.2.2 q h3
  · exact hin v (List.mem_of_getElem? (mm_entry_ld hv))
  · refine W.widen (k := mm_mc e0.1) (n := mm_ms e0.1) (Nat.le_refl _) hsu1 ?_
    have hqc : ∀ t : State, t.heap = H1 → s.WarmedH t.vm → mm_Qc D cA base b H00 S S1 v1 (mm_mc e0.1) (as.map (mm_phi base b)).toArray s (.returned (some (.int (Int32.ofInt z)))) t := fun t ht _ => ⟨by rw [hz2]; rfl, by rw [ht]; exact hR1.off (fun _ h => absurd h List.not_mem_nil), by omega, fun w hw => by rw [hz2] at hw; cases hw; exact hzi⟩
    rcases hrt with h | h | ⟨h, hbl⟩
    · exact absurd h hrn
    · exact W.iret B.exec B.bytes (B.returns.trans h) hqc hR1.2.1.2.2 hd B.notSynchronized
    · exact W.zret B.exec B.bytes (B.returns.trans h) (mm_nar_bool (hzb.resolve_left (by rw [hbl]; decide))).1 hqc hR1.2.1.2.2 hd B.notSynchronized
  · refine W.widen (k := mm_mc e0.1) (n := mm_ms e0.1) (Nat.le_refl _) hsu1 ?_
    exact W.vret B.exec B.bytes (B.returns.trans hrn) (fun t ht _ => ⟨by rw [hz2]; rfl, by rw [ht]; exact hR1.off (fun _ h => absurd h List.not_mem_nil), by omega, fun w hw => by rw [hz2] at hw; cases hw⟩) hR1.2.1.2.2 hd B.notSynchronized
