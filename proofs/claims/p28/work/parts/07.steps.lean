-- EACH STEP of the small machine is one of the machine
/-- what stands still during a call: code, class, words, room, classes and script -/
def mm_Cx (X : Nat × (Nat → Int)) (I : mm_I) (p : Program) (R : Room) (s : State) (m : MethodId) (args : Array Value) (meth : Method) (c : Code) (D : va_G) (cA : Nat → ClassId) (base b : Nat) (H00 : Heap) : Prop :=
  p.tables.exec = Jvm.exec ∧ c.code = mm_bytes I ∧ c.maxLocals = mm_maxL I ∧ s.vm.findClass (mm_R (mm_own I)) = some m.cls ∧ (∀ w ∈ lw_u, w.before args s = true) ∧ meth.locks = false ∧ (mm_ctor I = true → meth.name = "<init>") ∧ (mm_rf I ≤ R.frames ∧ mm_rl I ≤ R.locals ∧ mm_mc I ≤ R.cells ∧ mm_ms I ≤ R.slots) ∧ mm_Wd X D cA base b H00 s
/-- how a frame of the small machine stands in the machine -/
def mm_G (I : mm_I) (s : State) (D : va_G) (cA : Nat → ClassId) (base b : Nat) (H00 : Heap) (ex : List (Nat × Value)) (L : mm_L) (st : List mm_V) (S : mm_S) (cu su : Nat) (ls : Array Slot) (H : Heap) (locs : List Loc) : Prop :=
  (L.length = mm_maxL I ∧ lv_has ls (mm_maxL I) (ex ++ mm_prs base b L)) ∧ (∀ v ∈ st, mm_inr v) ∧ (∀ (i : Nat) (v : mm_V), mm_ld L i = some v → mm_inr v) ∧ mm_Rel D cA base H00 S H locs ∧ base + S.1.length = s.heap.size + cu ∧ cu ≤ mm_mc I ∧ su ≤ mm_ms I
section MMS
variable {p : Program} {l : Launch} {e : Env} {R : Room} {s : State} {m : MethodId} {args : Array Value} {below : List Frame} {meth : Method} {c : Code} {H : Heap} {locs : List Loc} {Q : State → Prop}
variable {X : Nat × (Nat → Int)} {I : mm_I} {D : va_G} {cA : Nat → ClassId} {base b : Nat} {H00 : Heap} {pc len tgt : Nat} {L : mm_L} {st : List mm_V} {S : mm_S} {cu su : Nat} {ls : Array Slot} {C' : mm_C} {ex : List (Nat × Value)} {tl : List Value}
/-- the walk from the next place on -/
def mm_kk (p : Program) (l : Launch) (e : Env) (R : Room) (s : State) (m : MethodId) (args : Array Value) (below : List Frame) (meth : Method) (c : Code) (Q : State → Prop) (I : mm_I) (D : va_G) (cA : Nat → ClassId) (base b : Nat) (H00 : Heap) (ex : List (Nat × Value)) (tl : List Value) (C' : mm_C) : Prop :=
  ∀ (ls' : Array Slot) (H' : Heap) (locs' : List Loc), mm_G I s D cA base b H00 ex C'.2.1 C'.2.2.1 C'.2.2.2.1 C'.2.2.2.2.1 C'.2.2.2.2.2 ls' H' locs' → W p l e R s m args below meth c H' locs' C'.2.2.2.2.1 C'.2.2.2.2.2 Q (F0 m C'.1 ls' (C'.2.2.1.map (mm_phi base b) ++ tl))
theorem W.sizeLe {p : Program} {l : Launch} {e : Env} {R : Room} {s : State} {m : MethodId} {args : Array Value} {below : List Frame} {meth : Method} {c : Code} {H : Heap} {locs : List Loc} {cells slots : Nat} {Q : State → Prop} {g : JFrame} (kk : H.size ≤ s.heap.size + cells → W p l e R s m args below meth c H locs cells slots Q g) : W p l e R s m args below meth c H locs cells slots Q g := by
  intro T hT X
  exact kk (by rw [← hT]; exact X.heapSize) T hT X
theorem mm_all_cons {v : mm_V} {st : List mm_V} (h : mm_inr v) (hs : ∀ w ∈ st, mm_inr w) : ∀ w ∈ v :: st, mm_inr w := List.forall_mem_cons.mpr ⟨h, hs⟩
theorem mm_s_iconst {i : Int} (hx : mm_Cx X I p R s m args meth c D cA base b H00) (hG : mm_G I s D cA base b H00 ex L st S cu su ls H locs) (hd : decode (mm_bytes I) pc = .ok (.iconst i, len)) (hf : mm_fine I (pc, .iconst i, len, tgt) = true) (hs : mm_step mt X I (.iconst i) len tgt (pc, L, st, S, cu, su) = some (.inl C')) (kk : mm_kk p l e R s m args below meth c Q I D cA base b H00 (mm_exi (.iconst i) ex) tl C') : W p l e R s m args below meth c H locs cu su Q (F0 m pc ls (st.map (mm_phi base b) ++ tl)) := by
  simp only [mm_fine, Bool.and_eq_true, beq_iff_eq, decide_eq_true_eq] at hf
  obtain ⟨⟨rfl, h1⟩, h2⟩ := hf
  obtain ⟨hl, hst, hlr, hR, hn, hc, hsu⟩ := hG
  cases (show (some (.inl (pc + 1, L, .inl i :: st, S, cu, su)) : Option mm_O) = some (.inl C') from hs)
  exact lv_iconst hx.1 hx.2.1 hd rfl (kk ls H locs ⟨hl, mm_all_cons ⟨by omega, by omega⟩ hst, hlr, hR, hn, hc, hsu⟩)
theorem mm_s_bipush {i : Int} (hx : mm_Cx X I p R s m args meth c D cA base b H00) (hG : mm_G I s D cA base b H00 ex L st S cu su ls H locs) (hd : decode (mm_bytes I) pc = .ok (.bipush i, len)) (hf : mm_fine I (pc, .bipush i, len, tgt) = true) (hs : mm_step mt X I (.bipush i) len tgt (pc, L, st, S, cu, su) = some (.inl C')) (kk : mm_kk p l e R s m args below meth c Q I D cA base b H00 (mm_exi (.bipush i) ex) tl C') : W p l e R s m args below meth c H locs cu su Q (F0 m pc ls (st.map (mm_phi base b) ++ tl)) := by
  simp only [mm_fine, Bool.and_eq_true, beq_iff_eq, decide_eq_true_eq] at hf
  obtain ⟨⟨rfl, h1⟩, h2⟩ := hf
  obtain ⟨hl, hst, hlr, hR, hn, hc, hsu⟩ := hG
  cases (show (some (.inl (pc + 2, L, .inl i :: st, S, cu, su)) : Option mm_O) = some (.inl C') from hs)
  exact lv_bipush hx.1 hx.2.1 hd (mm_i8 h1 h2) (kk ls H locs ⟨hl, mm_all_cons ⟨by omega, by omega⟩ hst, hlr, hR, hn, hc, hsu⟩)
theorem mm_s_sipush {i : Int} (hx : mm_Cx X I p R s m args meth c D cA base b H00) (hG : mm_G I s D cA base b H00 ex L st S cu su ls H locs) (hd : decode (mm_bytes I) pc = .ok (.sipush i, len)) (hf : mm_fine I (pc, .sipush i, len, tgt) = true) (hs : mm_step mt X I (.sipush i) len tgt (pc, L, st, S, cu, su) = some (.inl C')) (kk : mm_kk p l e R s m args below meth c Q I D cA base b H00 (mm_exi (.sipush i) ex) tl C') : W p l e R s m args below meth c H locs cu su Q (F0 m pc ls (st.map (mm_phi base b) ++ tl)) := by
  simp only [mm_fine, Bool.and_eq_true, beq_iff_eq, decide_eq_true_eq] at hf
  obtain ⟨⟨rfl, h1⟩, h2⟩ := hf
  obtain ⟨hl, hst, hlr, hR, hn, hc, hsu⟩ := hG
  cases (show (some (.inl (pc + 3, L, .inl i :: st, S, cu, su)) : Option mm_O) = some (.inl C') from hs)
  exact lv_sipush hx.1 hx.2.1 hd (mm_i16 h1 h2) (kk ls H locs ⟨hl, mm_all_cons ⟨by omega, by omega⟩ hst, hlr, hR, hn, hc, hsu⟩)
theorem mm_s_iload {i : Nat} (hx : mm_Cx X I p R s m args meth c D cA base b H00) (hG : mm_G I s D cA base b H00 ex L st S cu su ls H locs) (hd : decode (mm_bytes I) pc = .ok (.iload i, len)) (hf : mm_fine I (pc, .iload i, len, tgt) = true) (hs : mm_step mt X I (.iload i) len tgt (pc, L, st, S, cu, su) = some (.inl C')) (kk : mm_kk p l e R s m args below meth c Q I D cA base b H00 (mm_exi (.iload i) ex) tl C') : W p l e R s m args below meth c H locs cu su Q (F0 m pc ls (st.map (mm_phi base b) ++ tl)) := by
  simp only [mm_fine, Bool.and_eq_true, beq_iff_eq, decide_eq_true_eq] at hf
  obtain ⟨rfl, -⟩ := hf
  obtain ⟨hl, hst, hlr, hR, hn, hc, hsu⟩ := hG
  cases hv : mm_ld L i with
  | none => simp only [mm_step, hv] at hs; cases hs
  | some v =>
    have hq := mm_lv_at hl.2 hv
    rcases v with z | a
    · simp only [mm_step, hv, mm_nx, Option.some.injEq, Sum.inl.injEq] at hs; subst hs
      exact lv_iload hx.1 hx.2.1 hd hq (kk ls H locs ⟨hl, mm_all_cons (hlr _ _ hv) hst, hlr, hR, hn, hc, hsu⟩)
    · simp only [mm_step, hv] at hs; cases hs
theorem mm_s_iload_n {i : Fin 4} (hx : mm_Cx X I p R s m args meth c D cA base b H00) (hG : mm_G I s D cA base b H00 ex L st S cu su ls H locs) (hd : decode (mm_bytes I) pc = .ok (.iload_n i, len)) (hf : mm_fine I (pc, .iload_n i, len, tgt) = true) (hs : mm_step mt X I (.iload_n i) len tgt (pc, L, st, S, cu, su) = some (.inl C')) (kk : mm_kk p l e R s m args below meth c Q I D cA base b H00 (mm_exi (.iload_n i) ex) tl C') : W p l e R s m args below meth c H locs cu su Q (F0 m pc ls (st.map (mm_phi base b) ++ tl)) := by
  simp only [mm_fine, Bool.and_eq_true, beq_iff_eq, decide_eq_true_eq] at hf
  obtain ⟨rfl, -⟩ := hf
  obtain ⟨hl, hst, hlr, hR, hn, hc, hsu⟩ := hG
  cases hv : mm_ld L i.val with
  | none => simp only [mm_step, hv] at hs; cases hs
  | some v =>
    have hq := mm_lv_at hl.2 hv
    rcases v with z | a
    · simp only [mm_step, hv, mm_nx, Option.some.injEq, Sum.inl.injEq] at hs; subst hs
      exact lv_iload_n hx.1 hx.2.1 hd rfl hq (kk ls H locs ⟨hl, mm_all_cons (hlr _ _ hv) hst, hlr, hR, hn, hc, hsu⟩)
    · simp only [mm_step, hv] at hs; cases hs
theorem mm_s_aload_n {i : Fin 4} (hx : mm_Cx X I p R s m args meth c D cA base b H00) (hG : mm_G I s D cA base b H00 ex L st S cu su ls H locs) (hd : decode (mm_bytes I) pc = .ok (.aload_n i, len)) (hf : mm_fine I (pc, .aload_n i, len, tgt) = true) (hs : mm_step mt X I (.aload_n i) len tgt (pc, L, st, S, cu, su) = some (.inl C')) (kk : mm_kk p l e R s m args below meth c Q I D cA base b H00 (mm_exi (.aload_n i) ex) tl C') : W p l e R s m args below meth c H locs cu su Q (F0 m pc ls (st.map (mm_phi base b) ++ tl)) := by
  simp only [mm_fine, Bool.and_eq_true, beq_iff_eq, decide_eq_true_eq] at hf
  obtain ⟨rfl, -⟩ := hf
  obtain ⟨hl, hst, hlr, hR, hn, hc, hsu⟩ := hG
  cases hv : mm_ld L i.val with
  | none => simp only [mm_step, hv] at hs; cases hs
  | some v =>
    have hq := mm_lv_at hl.2 hv
    rcases v with z | a
    · simp only [mm_step, hv] at hs; cases hs
    · simp only [mm_step, hv, mm_nx, Option.some.injEq, Sum.inl.injEq] at hs; subst hs
      rcases a with _ | k
      · exact lv_aload_n hx.1 hx.2.1 hd rfl hq (kk ls H locs ⟨hl, mm_all_cons trivial hst, hlr, hR, hn, hc, hsu⟩)
      · exact lv_aload_n hx.1 hx.2.1 hd rfl hq (kk ls H locs ⟨hl, mm_all_cons trivial hst, hlr, hR, hn, hc, hsu⟩)
theorem mm_s_istore {i : Nat} (hx : mm_Cx X I p R s m args meth c D cA base b H00) (hG : mm_G I s D cA base b H00 ex L st S cu su ls H locs) (hd : decode (mm_bytes I) pc = .ok (.istore i, len)) (hf : mm_fine I (pc, .istore i, len, tgt) = true) (hs : mm_step mt X I (.istore i) len tgt (pc, L, st, S, cu, su) = some (.inl C')) (kk : mm_kk p l e R s m args below meth c Q I D cA base b H00 (mm_exi (.istore i) ex) tl C') : W p l e R s m args below meth c H locs cu su Q (F0 m pc ls (st.map (mm_phi base b) ++ tl)) := by
  simp only [mm_fine, Bool.and_eq_true, beq_iff_eq, decide_eq_true_eq] at hf
  obtain ⟨rfl, hi⟩ := hf
  have hi : i < mm_maxL I := Nat.le_of_ble_eq_true hi
  obtain ⟨hl, hst, hlr, hR, hn, hc, hsu⟩ := hG
  rcases st with _ | ⟨z | a, r⟩ <;> try (cases (show (none : Option mm_O) = some (.inl C') from hs); done)
  cases (show (some (.inl (pc + 2, L.set i (some (.inl z)), r, S, cu, su)) : Option mm_O) = some (.inl C') from hs)
  have h0 := List.forall_mem_cons.mp hst
  exact lv_istore hx.1 hx.2.1 hd hl.2 hi rfl (fun ls' hl' => kk ls' H locs ⟨⟨by rw [List.length_set]; exact hl.1, mm_lv_set (v := .inl z) hl'⟩, h0.2, fun j w hw => by
    rcases mm_ld_set hw with ⟨-, e2⟩ | ⟨-, e2⟩
    · rw [e2]; exact h0.1
    · exact hlr _ _ e2, hR, hn, hc, hsu⟩)
theorem mm_s_istore_n {i : Fin 4} (hx : mm_Cx X I p R s m args meth c D cA base b H00) (hG : mm_G I s D cA base b H00 ex L st S cu su ls H locs) (hd : decode (mm_bytes I) pc = .ok (.istore_n i, len)) (hf : mm_fine I (pc, .istore_n i, len, tgt) = true) (hs : mm_step mt X I (.istore_n i) len tgt (pc, L, st, S, cu, su) = some (.inl C')) (kk : mm_kk p l e R s m args below meth c Q I D cA base b H00 (mm_exi (.istore_n i) ex) tl C') : W p l e R s m args below meth c H locs cu su Q (F0 m pc ls (st.map (mm_phi base b) ++ tl)) := by
  simp only [mm_fine, Bool.and_eq_true, beq_iff_eq, decide_eq_true_eq] at hf
  obtain ⟨rfl, hi⟩ := hf
  have hi : i.val < mm_maxL I := Nat.le_of_ble_eq_true hi
  obtain ⟨hl, hst, hlr, hR, hn, hc, hsu⟩ := hG
  rcases st with _ | ⟨z | a, r⟩ <;> try (cases (show (none : Option mm_O) = some (.inl C') from hs); done)
  cases (show (some (.inl (pc + 1, L.set i.val (some (.inl z)), r, S, cu, su)) : Option mm_O) = some (.inl C') from hs)
  have h0 := List.forall_mem_cons.mp hst
  exact lv_istore_n hx.1 hx.2.1 hd rfl hl.2 hi rfl (fun ls' hl' => kk ls' H locs ⟨⟨by rw [List.length_set]; exact hl.1, mm_lv_set (v := .inl z) hl'⟩, h0.2, fun j w hw => by
    rcases mm_ld_set hw with ⟨-, e2⟩ | ⟨-, e2⟩
    · rw [e2]; exact h0.1
    · exact hlr _ _ e2, hR, hn, hc, hsu⟩)
theorem mm_s_astore_n {i : Fin 4} (hx : mm_Cx X I p R s m args meth c D cA base b H00) (hG : mm_G I s D cA base b H00 ex L st S cu su ls H locs) (hd : decode (mm_bytes I) pc = .ok (.astore_n i, len)) (hf : mm_fine I (pc, .astore_n i, len, tgt) = true) (hs : mm_step mt X I (.astore_n i) len tgt (pc, L, st, S, cu, su) = some (.inl C')) (kk : mm_kk p l e R s m args below meth c Q I D cA base b H00 (mm_exi (.astore_n i) ex) tl C') : W p l e R s m args below meth c H locs cu su Q (F0 m pc ls (st.map (mm_phi base b) ++ tl)) := by
  simp only [mm_fine, Bool.and_eq_true, beq_iff_eq, decide_eq_true_eq] at hf
  obtain ⟨rfl, hi⟩ := hf
  have hi : i.val < mm_maxL I := Nat.le_of_ble_eq_true hi
  obtain ⟨hl, hst, hlr, hR, hn, hc, hsu⟩ := hG
  rcases st with _ | ⟨z | _ | a, r⟩ <;> try (cases (show (none : Option mm_O) = some (.inl C') from hs); done)
  cases (show (some (.inl (pc + 1, L.set i.val (some (.inr (some a))), r, S, cu, su)) : Option mm_O) = some (.inl C') from hs)
  have h0 := List.forall_mem_cons.mp hst
  exact lv_astore_n hx.1 hx.2.1 hd rfl hl.2 hi rfl (fun ls' hl' => kk ls' H locs ⟨⟨by rw [List.length_set]; exact hl.1, mm_lv_set (v := .inr (some a)) hl'⟩, h0.2, fun j w hw => by
    rcases mm_ld_set hw with ⟨-, e2⟩ | ⟨-, e2⟩
    · rw [e2]; exact h0.1
    · exact hlr _ _ e2, hR, hn, hc, hsu⟩)
theorem mm_s_iinc {i : Nat} {k : Int} (hx : mm_Cx X I p R s m args meth c D cA base b H00) (hG : mm_G I s D cA base b H00 ex L st S cu su ls H locs) (hd : decode (mm_bytes I) pc = .ok (.iinc i k, len)) (hf : mm_fine I (pc, .iinc i k, len, tgt) = true) (hs : mm_step mt X I (.iinc i k) len tgt (pc, L, st, S, cu, su) = some (.inl C')) (kk : mm_kk p l e R s m args below meth c Q I D cA base b H00 (mm_exi (.iinc i k) ex) tl C') : W p l e R s m args below meth c H locs cu su Q (F0 m pc ls (st.map (mm_phi base b) ++ tl)) := by
  simp only [mm_fine, Bool.and_eq_true, beq_iff_eq, decide_eq_true_eq] at hf
  obtain ⟨rfl, hi⟩ := hf
  have hi : i < mm_maxL I := Nat.le_of_ble_eq_true hi
  obtain ⟨hl, hst, hlr, hR, hn, hc, hsu⟩ := hG
  cases hv : mm_ld L i with
  | none => simp only [mm_step, hv] at hs; cases hs
  | some v =>
    rcases v with z | a
    · simp only [mm_step, hv, mm_nx, Option.some.injEq, Sum.inl.injEq] at hs; subst hs
      obtain ⟨k0, hk0⟩ := mm_lv_idx (base := base) (b := b) (ex := ex) hv
      exact lv_iinc (v := Int32.ofInt (mm_w (z + k))) hx.1 hx.2.1 hd hl.2 hk0 (by rw [mm_w_of, Int32.ofInt_add]) hi rfl (fun ls' hl' => kk ls' H locs ⟨⟨by rw [List.length_set]; exact hl.1, mm_lv_set (v := .inl (mm_w (z + k))) hl'⟩, hst, fun j w hw => by
        rcases mm_ld_set hw with ⟨-, e2⟩ | ⟨-, e2⟩
        · rw [e2]; exact mm_w_in _
        · exact hlr _ _ e2, hR, hn, hc, hsu⟩)
    · simp only [mm_step, hv] at hs; cases hs
theorem mm_s_iadd (hx : mm_Cx X I p R s m args meth c D cA base b H00) (hG : mm_G I s D cA base b H00 ex L st S cu su ls H locs) (hd : decode (mm_bytes I) pc = .ok (.iadd, len)) (hf : mm_fine I (pc, .iadd, len, tgt) = true) (hs : mm_step mt X I (.iadd) len tgt (pc, L, st, S, cu, su) = some (.inl C')) (kk : mm_kk p l e R s m args below meth c Q I D cA base b H00 (mm_exi (.iadd) ex) tl C') : W p l e R s m args below meth c H locs cu su Q (F0 m pc ls (st.map (mm_phi base b) ++ tl)) := by
  obtain rfl : len = 1 := eq_of_beq (show (len == 1) = true from hf)
  obtain ⟨hl, hst, hlr, hR, hn, hc, hsu⟩ := hG
  rcases st with _ | ⟨y | a, _ | ⟨x | a2, r⟩⟩ <;> try (cases (show (none : Option mm_O) = some (.inl C') from hs); done)
  cases (show (some (.inl (pc + 1, L, .inl (mm_w (x + y)) :: r, S, cu, su)) : Option mm_O) = some (.inl C') from hs)
  have h0 := List.forall_mem_cons.mp hst
  have h1 := List.forall_mem_cons.mp h0.2
  have hk := kk ls H locs ⟨hl, mm_all_cons (mm_w_in _) h1.2, hlr, hR, hn, hc, hsu⟩
  refine lv_iadd hx.1 hx.2.1 hd ?_
  have he : Int32.ofInt (mm_w (x + y)) = Int32.ofInt x + Int32.ofInt y := by rw [mm_w_of, Int32.ofInt_add]
  rw [← he]
  exact hk
theorem mm_s_isub (hx : mm_Cx X I p R s m args meth c D cA base b H00) (hG : mm_G I s D cA base b H00 ex L st S cu su ls H locs) (hd : decode (mm_bytes I) pc = .ok (.isub, len)) (hf : mm_fine I (pc, .isub, len, tgt) = true) (hs : mm_step mt X I (.isub) len tgt (pc, L, st, S, cu, su) = some (.inl C')) (kk : mm_kk p l e R s m args below meth c Q I D cA base b H00 (mm_exi (.isub) ex) tl C') : W p l e R s m args below meth c H locs cu su Q (F0 m pc ls (st.map (mm_phi base b) ++ tl)) := by
  obtain rfl : len = 1 := eq_of_beq (show (len == 1) = true from hf)
  obtain ⟨hl, hst, hlr, hR, hn, hc, hsu⟩ := hG
  rcases st with _ | ⟨y | a, _ | ⟨x | a2, r⟩⟩ <;> try (cases (show (none : Option mm_O) = some (.inl C') from hs); done)
  cases (show (some (.inl (pc + 1, L, .inl (mm_w (x - y)) :: r, S, cu, su)) : Option mm_O) = some (.inl C') from hs)
  have h0 := List.forall_mem_cons.mp hst
  have h1 := List.forall_mem_cons.mp h0.2
  have hk := kk ls H locs ⟨hl, mm_all_cons (mm_w_in _) h1.2, hlr, hR, hn, hc, hsu⟩
  refine lv_isub hx.1 hx.2.1 hd ?_
  have he : Int32.ofInt (mm_w (x - y)) = Int32.ofInt x - Int32.ofInt y := by rw [mm_w_of, Int32.ofInt_sub]
  rw [← he]
  exact hk
theorem mm_s_imul (hx : mm_Cx X I p R s m args meth c D cA base b H00) (hG : mm_G I s D cA base b H00 ex L st S cu su ls H locs) (hd : decode (mm_bytes I) pc = .ok (.imul, len)) (hf : mm_fine I (pc, .imul, len, tgt) = true) (hs : mm_step mt X I (.imul) len tgt (pc, L, st, S, cu, su) = some (.inl C')) (kk : mm_kk p l e R s m args below meth c Q I D cA base b H00 (mm_exi (.imul) ex) tl C') : W p l e R s m args below meth c H locs cu su Q (F0 m pc ls (st.map (mm_phi base b) ++ tl)) := by
  obtain rfl : len = 1 := eq_of_beq (show (len == 1) = true from hf)
  obtain ⟨hl, hst, hlr, hR, hn, hc, hsu⟩ := hG
  rcases st with _ | ⟨y | a, _ | ⟨x | a2, r⟩⟩ <;> try (cases (show (none : Option mm_O) = some (.inl C') from hs); done)
  cases (show (some (.inl (pc + 1, L, .inl (mm_w (x * y)) :: r, S, cu, su)) : Option mm_O) = some (.inl C') from hs)
  have h0 := List.forall_mem_cons.mp hst
  have h1 := List.forall_mem_cons.mp h0.2
  have hk := kk ls H locs ⟨hl, mm_all_cons (mm_w_in _) h1.2, hlr, hR, hn, hc, hsu⟩
  refine lv_imul hx.1 hx.2.1 hd ?_
  have he : Int32.ofInt (mm_w (x * y)) = Int32.ofInt x * Int32.ofInt y := by rw [mm_w_of, Int32.ofInt_mul]
  rw [← he]
  exact hk
theorem mm_s_idiv (hx : mm_Cx X I p R s m args meth c D cA base b H00) (hG : mm_G I s D cA base b H00 ex L st S cu su ls H locs) (hd : decode (mm_bytes I) pc = .ok (.idiv, len)) (hf : mm_fine I (pc, .idiv, len, tgt) = true) (hs : mm_step mt X I (.idiv) len tgt (pc, L, st, S, cu, su) = some (.inl C')) (kk : mm_kk p l e R s m args below meth c Q I D cA base b H00 (mm_exi (.idiv) ex) tl C') : W p l e R s m args below meth c H locs cu su Q (F0 m pc ls (st.map (mm_phi base b) ++ tl)) := by
  obtain rfl : len = 1 := eq_of_beq (show (len == 1) = true from hf)
  obtain ⟨hl, hst, hlr, hR, hn, hc, hsu⟩ := hG
  rcases st with _ | ⟨y | a, _ | ⟨x | a2, r⟩⟩ <;> try (cases (show (none : Option mm_O) = some (.inl C') from hs); done)
  have h0 := List.forall_mem_cons.mp hst
  have h1 := List.forall_mem_cons.mp h0.2
  have hs : (if 0 < y then (some (.inl (pc + 1, L, .inl (x.tdiv y) :: r, S, cu, su)) : Option mm_O) else none) = some (.inl C') := hs
  by_cases hy : 0 < y
  · rw [if_pos hy] at hs
    cases hs
    have hk := kk ls H locs ⟨hl, mm_all_cons (mm_tdiv_in h1.1 hy) h1.2, hlr, hR, hn, hc, hsu⟩
    refine lv_idiv hx.1 hx.2.1 hd (fun q => by have := (mm_eq h0.1 mm_in0).mp q; omega) ?_
    rw [mm_tdiv h1.1 h0.1 hy]
    exact hk
  · rw [if_neg hy] at hs
    cases hs
theorem mm_s_irem (hx : mm_Cx X I p R s m args meth c D cA base b H00) (hG : mm_G I s D cA base b H00 ex L st S cu su ls H locs) (hd : decode (mm_bytes I) pc = .ok (.irem, len)) (hf : mm_fine I (pc, .irem, len, tgt) = true) (hs : mm_step mt X I (.irem) len tgt (pc, L, st, S, cu, su) = some (.inl C')) (kk : mm_kk p l e R s m args below meth c Q I D cA base b H00 (mm_exi (.irem) ex) tl C') : W p l e R s m args below meth c H locs cu su Q (F0 m pc ls (st.map (mm_phi base b) ++ tl)) := by
  obtain rfl : len = 1 := eq_of_beq (show (len == 1) = true from hf)
  obtain ⟨hl, hst, hlr, hR, hn, hc, hsu⟩ := hG
  rcases st with _ | ⟨y | a, _ | ⟨x | a2, r⟩⟩ <;> try (cases (show (none : Option mm_O) = some (.inl C') from hs); done)
  have h0 := List.forall_mem_cons.mp hst
  have h1 := List.forall_mem_cons.mp h0.2
  have hs : (if 0 < y then (some (.inl (pc + 1, L, .inl (x.tmod y) :: r, S, cu, su)) : Option mm_O) else none) = some (.inl C') := hs
  by_cases hy : 0 < y
  · rw [if_pos hy] at hs
    cases hs
    have hk := kk ls H locs ⟨hl, mm_all_cons (mm_tmod_in h1.1 h0.1 hy) h1.2, hlr, hR, hn, hc, hsu⟩
    refine lv_irem hx.1 hx.2.1 hd (fun q => by have := (mm_eq h0.1 mm_in0).mp q; omega) ?_
    rw [mm_tmod h1.1 h0.1 hy]
    exact hk
  · rw [if_neg hy] at hs
    cases hs
theorem mm_s_iand (hx : mm_Cx X I p R s m args meth c D cA base b H00) (hG : mm_G I s D cA base b H00 ex L st S cu su ls H locs) (hd : decode (mm_bytes I) pc = .ok (.iand, len)) (hf : mm_fine I (pc, .iand, len, tgt) = true) (hs : mm_step mt X I (.iand) len tgt (pc, L, st, S, cu, su) = some (.inl C')) (kk : mm_kk p l e R s m args below meth c Q I D cA base b H00 (mm_exi (.iand) ex) tl C') : W p l e R s m args below meth c H locs cu su Q (F0 m pc ls (st.map (mm_phi base b) ++ tl)) := by
  obtain rfl : len = 1 := eq_of_beq (show (len == 1) = true from hf)
  obtain ⟨hl, hst, hlr, hR, hn, hc, hsu⟩ := hG
  rcases st with _ | ⟨y | a, _ | ⟨x | a2, r⟩⟩ <;> try (cases (show (none : Option mm_O) = some (.inl C') from hs); done)
  cases (show (some (.inl (pc + 1, L, .inl (Int32.ofInt x &&& Int32.ofInt y).toInt :: r, S, cu, su)) : Option mm_O) = some (.inl C') from hs)
  have h0 := List.forall_mem_cons.mp hst
  have h1 := List.forall_mem_cons.mp h0.2
  have hk := kk ls H locs ⟨hl, mm_all_cons (mm_and_in x y) h1.2, hlr, hR, hn, hc, hsu⟩
  refine lv_iand hx.1 hx.2.1 hd ?_
  have he : Int32.ofInt (Int32.ofInt x &&& Int32.ofInt y).toInt = Int32.ofInt x &&& Int32.ofInt y := Int32.ofInt_toInt _
  rw [← he]
  exact hk
theorem mm_i32_in (x : Int32) : mm_inr (.inl x.toInt) := by
  have h1 := Int32.le_toInt x
  have h2 := Int32.toInt_lt x
  exact ⟨by omega, by omega⟩
theorem mm_ck_in {o i : Nat} {z : Int} (h : mm_ck o i = some z) : (Jvm.Cond.constant (mm_R o) i (Int32.ofInt z)) ∈ lw_u ∧ mm_inr (.inl z) := by
  unfold mm_ck at h
  cases h1 : (o == 7 && i == 7) with
  | true =>
    rw [h1] at h
    cases h
    simp only [Bool.and_eq_true, beq_iff_eq] at h1
    rw [h1.1, h1.2]
    exact ⟨mm_wd_in (p := 321) (by decide +kernel), by decide, by decide⟩
  | false =>
    rw [h1] at h
    cases h2 : (o == 7 && i == 8) with
    | true =>
      rw [h2] at h
      cases h
      simp only [Bool.and_eq_true, beq_iff_eq] at h2
      rw [h2.1, h2.2]
      exact ⟨mm_wd_in (p := 325) (by decide +kernel), by decide, by decide⟩
    | false => rw [h2] at h; cases h
theorem mm_s_ldc {i : Nat} (hx : mm_Cx X I p R s m args meth c D cA base b H00) (hG : mm_G I s D cA base b H00 ex L st S cu su ls H locs) (hd : decode (mm_bytes I) pc = .ok (.ldc i, len)) (hf : mm_fine I (pc, .ldc i, len, tgt) = true) (hs : mm_step mt X I (.ldc i) len tgt (pc, L, st, S, cu, su) = some (.inl C')) (kk : mm_kk p l e R s m args below meth c Q I D cA base b H00 (mm_exi (.ldc i) ex) tl C') : W p l e R s m args below meth c H locs cu su Q (F0 m pc ls (st.map (mm_phi base b) ++ tl)) := by
  obtain rfl : len = 2 := eq_of_beq (show (len == 2) = true from hf)
  obtain ⟨hl, hst, hlr, hR, hn, hc, hsu⟩ := hG
  dsimp only [mm_step] at hs
  cases hq : mm_ck (mm_own I) i with
  | none => rw [hq] at hs; cases hs
  | some z =>
    rw [hq] at hs
    cases (show (some (.inl (pc + 2, L, .inl z :: st, S, cu, su)) : Option mm_O) = some (.inl C') from hs)
    obtain ⟨g1, g2⟩ := mm_ck_in hq
    exact lv_ldc hx.1 hx.2.1 hx.2.2.2.1 (hx.2.2.2.2.1 _ g1) hd (kk ls H locs ⟨hl, mm_all_cons g2 hst, hlr, hR, hn, hc, hsu⟩)
theorem mm_s_ishr (hx : mm_Cx X I p R s m args meth c D cA base b H00) (hG : mm_G I s D cA base b H00 ex L st S cu su ls H locs) (hd : decode (mm_bytes I) pc = .ok (.ishr, len)) (hf : mm_fine I (pc, .ishr, len, tgt) = true) (hs : mm_step mt X I (.ishr) len tgt (pc, L, st, S, cu, su) = some (.inl C')) (kk : mm_kk p l e R s m args below meth c Q I D cA base b H00 (mm_exi (.ishr) ex) tl C') : W p l e R s m args below meth c H locs cu su Q (F0 m pc ls (st.map (mm_phi base b) ++ tl)) := by
  obtain rfl : len = 1 := eq_of_beq (show (len == 1) = true from hf)
  obtain ⟨hl, hst, hlr, hR, hn, hc, hsu⟩ := hG
  rcases st with _ | ⟨y | a, _ | ⟨x | a2, r⟩⟩ <;> try (cases (show (none : Option mm_O) = some (.inl C') from hs); done)
  cases (show (some (.inl (pc + 1, L, .inl (Int32.ofInt x >>> (Int32.ofInt y &&& 31)).toInt :: r, S, cu, su)) : Option mm_O) = some (.inl C') from hs)
  have h0 := List.forall_mem_cons.mp hst
  have h1 := List.forall_mem_cons.mp h0.2
  have hk := kk ls H locs ⟨hl, mm_all_cons (mm_i32_in _) h1.2, hlr, hR, hn, hc, hsu⟩
  refine lv_ishr hx.1 hx.2.1 hd ?_
  have he : Int32.ofInt (Int32.ofInt x >>> (Int32.ofInt y &&& 31)).toInt = Int32.ofInt x >>> (Int32.ofInt y &&& 31) := Int32.ofInt_toInt _
  rw [← he]
  exact hk
theorem mm_s_i2c (hx : mm_Cx X I p R s m args meth c D cA base b H00) (hG : mm_G I s D cA base b H00 ex L st S cu su ls H locs) (hd : decode (mm_bytes I) pc = .ok (.i2c, len)) (hf : mm_fine I (pc, .i2c, len, tgt) = true) (hs : mm_step mt X I (.i2c) len tgt (pc, L, st, S, cu, su) = some (.inl C')) (kk : mm_kk p l e R s m args below meth c Q I D cA base b H00 (mm_exi (.i2c) ex) tl C') : W p l e R s m args below meth c H locs cu su Q (F0 m pc ls (st.map (mm_phi base b) ++ tl)) := by
  obtain rfl : len = 1 := eq_of_beq (show (len == 1) = true from hf)
  obtain ⟨hl, hst, hlr, hR, hn, hc, hsu⟩ := hG
  rcases st with _ | ⟨x | a, r⟩ <;> try (cases (show (none : Option mm_O) = some (.inl C') from hs); done)
  cases (show (some (.inl (pc + 1, L, .inl (x % 65536) :: r, S, cu, su)) : Option mm_O) = some (.inl C') from hs)
  have h0 := List.forall_mem_cons.mp hst
  have h1 : 0 ≤ x % 65536 := Int.emod_nonneg _ (by decide)
  have h2 : x % 65536 < 65536 := Int.emod_lt_of_pos _ (by decide)
  exact lv_i2c hx.1 hx.2.1 hd (mm_i2c h0.1) (kk ls H locs ⟨hl, mm_all_cons ⟨by omega, by omega⟩ h0.2, hlr, hR, hn, hc, hsu⟩)
theorem mm_s_dup (hx : mm_Cx X I p R s m args meth c D cA base b H00) (hG : mm_G I s D cA base b H00 ex L st S cu su ls H locs) (hd : decode (mm_bytes I) pc = .ok (.dup, len)) (hf : mm_fine I (pc, .dup, len, tgt) = true) (hs : mm_step mt X I (.dup) len tgt (pc, L, st, S, cu, su) = some (.inl C')) (kk : mm_kk p l e R s m args below meth c Q I D cA base b H00 (mm_exi (.dup) ex) tl C') : W p l e R s m args below meth c H locs cu su Q (F0 m pc ls (st.map (mm_phi base b) ++ tl)) := by
  obtain rfl : len = 1 := eq_of_beq (show (len == 1) = true from hf)
  obtain ⟨hl, hst, hlr, hR, hn, hc, hsu⟩ := hG
  rcases st with _ | ⟨v, r⟩ <;> try (cases (show (none : Option mm_O) = some (.inl C') from hs); done)
  cases (show (some (.inl (pc + 1, L, v :: v :: r, S, cu, su)) : Option mm_O) = some (.inl C') from hs)
  have h0 := List.forall_mem_cons.mp hst
  exact lv_dup hx.1 hx.2.1 hd (mm_phi_cat base b v) (kk ls H locs ⟨hl, mm_all_cons h0.1 (mm_all_cons h0.1 h0.2), hlr, hR, hn, hc, hsu⟩)
theorem mm_s_dup2 (hx : mm_Cx X I p R s m args meth c D cA base b H00) (hG : mm_G I s D cA base b H00 ex L st S cu su ls H locs) (hd : decode (mm_bytes I) pc = .ok (.dup2, len)) (hf : mm_fine I (pc, .dup2, len, tgt) = true) (hs : mm_step mt X I (.dup2) len tgt (pc, L, st, S, cu, su) = some (.inl C')) (kk : mm_kk p l e R s m args below meth c Q I D cA base b H00 (mm_exi (.dup2) ex) tl C') : W p l e R s m args below meth c H locs cu su Q (F0 m pc ls (st.map (mm_phi base b) ++ tl)) := by
  obtain rfl : len = 1 := eq_of_beq (show (len == 1) = true from hf)
  obtain ⟨hl, hst, hlr, hR, hn, hc, hsu⟩ := hG
  rcases st with _ | ⟨v, _ | ⟨u, r⟩⟩ <;> try (cases (show (none : Option mm_O) = some (.inl C') from hs); done)
  cases (show (some (.inl (pc + 1, L, v :: u :: v :: u :: r, S, cu, su)) : Option mm_O) = some (.inl C') from hs)
  have h0 := List.forall_mem_cons.mp hst
  have h1 := List.forall_mem_cons.mp h0.2
  exact lv_dup2_11 hx.1 hx.2.1 hd (mm_phi_cat base b v) (mm_phi_cat base b u) (kk ls H locs ⟨hl, mm_all_cons h0.1 (mm_all_cons h1.1 (mm_all_cons h0.1 (mm_all_cons h1.1 h1.2))), hlr, hR, hn, hc, hsu⟩)
theorem mm_s_pop (hx : mm_Cx X I p R s m args meth c D cA base b H00) (hG : mm_G I s D cA base b H00 ex L st S cu su ls H locs) (hd : decode (mm_bytes I) pc = .ok (.pop, len)) (hf : mm_fine I (pc, .pop, len, tgt) = true) (hs : mm_step mt X I (.pop) len tgt (pc, L, st, S, cu, su) = some (.inl C')) (kk : mm_kk p l e R s m args below meth c Q I D cA base b H00 (mm_exi (.pop) ex) tl C') : W p l e R s m args below meth c H locs cu su Q (F0 m pc ls (st.map (mm_phi base b) ++ tl)) := by
  obtain rfl : len = 1 := eq_of_beq (show (len == 1) = true from hf)
  obtain ⟨hl, hst, hlr, hR, hn, hc, hsu⟩ := hG
  rcases st with _ | ⟨v, r⟩ <;> try (cases (show (none : Option mm_O) = some (.inl C') from hs); done)
  cases (show (some (.inl (pc + 1, L, r, S, cu, su)) : Option mm_O) = some (.inl C') from hs)
  have h0 := List.forall_mem_cons.mp hst
  exact lv_pop hx.1 hx.2.1 hd (mm_phi_cat base b v) (kk ls H locs ⟨hl, h0.2, hlr, hR, hn, hc, hsu⟩)
theorem mm_s_ifCond {k : ClassFile.Cond} {o : Int} (hx : mm_Cx X I p R s m args meth c D cA base b H00) (hG : mm_G I s D cA base b H00 ex L st S cu su ls H locs) (hd : decode (mm_bytes I) pc = .ok (.ifCond k o, len)) (hf : mm_fine I (pc, .ifCond k o, len, tgt) = true) (hs : mm_step mt X I (.ifCond k o) len tgt (pc, L, st, S, cu, su) = some (.inl C')) (kk : mm_kk p l e R s m args below meth c Q I D cA base b H00 (mm_exi (.ifCond k o) ex) tl C') : W p l e R s m args below meth c H locs cu su Q (F0 m pc ls (st.map (mm_phi base b) ++ tl)) := by
  simp only [mm_fine, Bool.and_eq_true, beq_iff_eq, decide_eq_true_eq] at hf
  obtain ⟨rfl, ht⟩ := hf
  obtain ⟨hl, hst, hlr, hR, hn, hc, hsu⟩ := hG
  rcases st with _ | ⟨x | a, r⟩ <;> try (cases (show (none : Option mm_O) = some (.inl C') from hs); done)
  have h0 := List.forall_mem_cons.mp hst
  have hxx := h0.1
  have hr := h0.2
  have hy := mm_in0
  cases (show (some (.inl (mm_br k x 0 tgt (pc + 3), L, r, S, cu, su)) : Option mm_O) = some (.inl C') from hs)
  cases k with
  | eq =>
    refine lv_if_eq hx.1 hx.2.1 hd ht (fun q => ?_) (fun q => ?_)
    · have hk := kk ls H locs ⟨hl, hr, hlr, hR, hn, hc, hsu⟩
      have hq : x = 0 := (mm_eq hxx hy).mp q
      simp only [mm_br, if_pos hq] at hk
      exact hk
    · have hk := kk ls H locs ⟨hl, hr, hlr, hR, hn, hc, hsu⟩
      have hq : ¬ (x = 0) := fun z => by
        have z2 := (mm_eq hxx hy).mpr z
        first | exact q z2 | exact absurd z2 (by simpa using q) | exact absurd z2 (Int32.not_lt.mpr q) | exact absurd q (Int32.not_le.mpr z2)
      simp only [mm_br, if_neg hq] at hk
      exact hk
  | ne =>
    refine lv_if_ne hx.1 hx.2.1 hd ht (fun q => ?_) (fun q => ?_)
    · have hk := kk ls H locs ⟨hl, hr, hlr, hR, hn, hc, hsu⟩
      have hq : ¬ (x = 0) := fun z => by
        have z2 := (mm_eq hxx hy).mpr z
        first | exact q z2 | exact absurd z2 (by simpa using q) | exact absurd z2 (Int32.not_lt.mpr q) | exact absurd q (Int32.not_le.mpr z2)
      simp only [mm_br, if_neg hq] at hk
      exact hk
    · have hk := kk ls H locs ⟨hl, hr, hlr, hR, hn, hc, hsu⟩
      have hq : x = 0 := (mm_eq hxx hy).mp (by simpa using q)
      simp only [mm_br, if_pos hq] at hk
      exact hk
  | lt =>
    refine lv_if_lt hx.1 hx.2.1 hd ht (fun q => ?_) (fun q => ?_)
    · have hk := kk ls H locs ⟨hl, hr, hlr, hR, hn, hc, hsu⟩
      have hq : x < 0 := (mm_lt hxx hy).mp q
      simp only [mm_br, if_pos hq] at hk
      exact hk
    · have hk := kk ls H locs ⟨hl, hr, hlr, hR, hn, hc, hsu⟩
      have hq : ¬ (x < 0) := fun z => by
        have z2 := (mm_lt hxx hy).mpr z
        first | exact q z2 | exact absurd z2 (by simpa using q) | exact absurd z2 (Int32.not_lt.mpr q) | exact absurd q (Int32.not_le.mpr z2)
      simp only [mm_br, if_neg hq] at hk
      exact hk
  | ge =>
    refine lv_if_ge hx.1 hx.2.1 hd ht (fun q => ?_) (fun q => ?_)
    · have hk := kk ls H locs ⟨hl, hr, hlr, hR, hn, hc, hsu⟩
      have hq : ¬ (x < 0) := fun z => by
        have z2 := (mm_lt hxx hy).mpr z
        first | exact q z2 | exact absurd z2 (by simpa using q) | exact absurd z2 (Int32.not_lt.mpr q) | exact absurd q (Int32.not_le.mpr z2)
      simp only [mm_br, if_neg hq] at hk
      exact hk
    · have hk := kk ls H locs ⟨hl, hr, hlr, hR, hn, hc, hsu⟩
      have hq : x < 0 := (mm_lt hxx hy).mp (by simpa using q)
      simp only [mm_br, if_pos hq] at hk
      exact hk
  | gt =>
    refine lv_if_gt hx.1 hx.2.1 hd ht (fun q => ?_) (fun q => ?_)
    · have hk := kk ls H locs ⟨hl, hr, hlr, hR, hn, hc, hsu⟩
      have hq : 0 < x := (mm_lt hy hxx).mp q
      simp only [mm_br, if_pos hq] at hk
      exact hk
    · have hk := kk ls H locs ⟨hl, hr, hlr, hR, hn, hc, hsu⟩
      have hq : ¬ (0 < x) := fun z => by
        have z2 := (mm_lt hy hxx).mpr z
        first | exact q z2 | exact absurd z2 (by simpa using q) | exact absurd z2 (Int32.not_lt.mpr q) | exact absurd q (Int32.not_le.mpr z2)
      simp only [mm_br, if_neg hq] at hk
      exact hk
  | le =>
    refine lv_if_le hx.1 hx.2.1 hd ht (fun q => ?_) (fun q => ?_)
    · have hk := kk ls H locs ⟨hl, hr, hlr, hR, hn, hc, hsu⟩
      have hq : ¬ (0 < x) := fun z => by
        have z2 := (mm_lt hy hxx).mpr z
        first | exact q z2 | exact absurd z2 (by simpa using q) | exact absurd z2 (Int32.not_lt.mpr q) | exact absurd q (Int32.not_le.mpr z2)
      simp only [mm_br, if_neg hq] at hk
      exact hk
    · have hk := kk ls H locs ⟨hl, hr, hlr, hR, hn, hc, hsu⟩
      have hq : 0 < x := (mm_lt hy hxx).mp (by simpa using q)
      simp only [mm_br, if_pos hq] at hk
      exact hk
theorem mm_s_if_icmp {k : ClassFile.Cond} {o : Int} (hx : mm_Cx X I p R s m args meth c D cA base b H00) (hG : mm_G I s D cA base b H00 ex L st S cu su ls H locs) (hd : decode (mm_bytes I) pc = .ok (.if_icmp k o, len)) (hf : mm_fine I (pc, .if_icmp k o, len, tgt) = true) (hs : mm_step mt X I (.if_icmp k o) len tgt (pc, L, st, S, cu, su) = some (.inl C')) (kk : mm_kk p l e R s m args below meth c Q I D cA base b H00 (mm_exi (.if_icmp k o) ex) tl C') : W p l e R s m args below meth c H locs cu su Q (F0 m pc ls (st.map (mm_phi base b) ++ tl)) := by
  simp only [mm_fine, Bool.and_eq_true, beq_iff_eq, decide_eq_true_eq] at hf
  obtain ⟨rfl, ht⟩ := hf
  obtain ⟨hl, hst, hlr, hR, hn, hc, hsu⟩ := hG
  rcases st with _ | ⟨y | a, _ | ⟨x | a2, r⟩⟩ <;> try (cases (show (none : Option mm_O) = some (.inl C') from hs); done)
  have h0 := List.forall_mem_cons.mp hst
  have h1 := List.forall_mem_cons.mp h0.2
  have hy := h0.1
  have hxx := h1.1
  have hr := h1.2
  cases (show (some (.inl (mm_br k x y tgt (pc + 3), L, r, S, cu, su)) : Option mm_O) = some (.inl C') from hs)
  cases k with
  | eq =>
    refine lv_icmp_eq hx.1 hx.2.1 hd ht (fun q => ?_) (fun q => ?_)
    · have hk := kk ls H locs ⟨hl, hr, hlr, hR, hn, hc, hsu⟩
      have hq : x = y := (mm_eq hxx hy).mp q
      simp only [mm_br, if_pos hq] at hk
      exact hk
    · have hk := kk ls H locs ⟨hl, hr, hlr, hR, hn, hc, hsu⟩
      have hq : ¬ (x = y) := fun z => by
        have z2 := (mm_eq hxx hy).mpr z
        first | exact q z2 | exact absurd z2 (by simpa using q) | exact absurd z2 (Int32.not_lt.mpr q) | exact absurd q (Int32.not_le.mpr z2)
      simp only [mm_br, if_neg hq] at hk
      exact hk
  | ne =>
    refine lv_icmp_ne hx.1 hx.2.1 hd ht (fun q => ?_) (fun q => ?_)
    · have hk := kk ls H locs ⟨hl, hr, hlr, hR, hn, hc, hsu⟩
      have hq : ¬ (x = y) := fun z => by
        have z2 := (mm_eq hxx hy).mpr z
        first | exact q z2 | exact absurd z2 (by simpa using q) | exact absurd z2 (Int32.not_lt.mpr q) | exact absurd q (Int32.not_le.mpr z2)
      simp only [mm_br, if_neg hq] at hk
      exact hk
    · have hk := kk ls H locs ⟨hl, hr, hlr, hR, hn, hc, hsu⟩
      have hq : x = y := (mm_eq hxx hy).mp (by simpa using q)
      simp only [mm_br, if_pos hq] at hk
      exact hk
  | lt =>
    refine lv_icmp_lt hx.1 hx.2.1 hd ht (fun q => ?_) (fun q => ?_)
    · have hk := kk ls H locs ⟨hl, hr, hlr, hR, hn, hc, hsu⟩
      have hq : x < y := (mm_lt hxx hy).mp q
      simp only [mm_br, if_pos hq] at hk
      exact hk
    · have hk := kk ls H locs ⟨hl, hr, hlr, hR, hn, hc, hsu⟩
      have hq : ¬ (x < y) := fun z => by
        have z2 := (mm_lt hxx hy).mpr z
        first | exact q z2 | exact absurd z2 (by simpa using q) | exact absurd z2 (Int32.not_lt.mpr q) | exact absurd q (Int32.not_le.mpr z2)
      simp only [mm_br, if_neg hq] at hk
      exact hk
  | ge =>
    refine lv_icmp_ge hx.1 hx.2.1 hd ht (fun q => ?_) (fun q => ?_)
    · have hk := kk ls H locs ⟨hl, hr, hlr, hR, hn, hc, hsu⟩
      have hq : ¬ (x < y) := fun z => by
        have z2 := (mm_lt hxx hy).mpr z
        first | exact q z2 | exact absurd z2 (by simpa using q) | exact absurd z2 (Int32.not_lt.mpr q) | exact absurd q (Int32.not_le.mpr z2)
      simp only [mm_br, if_neg hq] at hk
      exact hk
    · have hk := kk ls H locs ⟨hl, hr, hlr, hR, hn, hc, hsu⟩
      have hq : x < y := (mm_lt hxx hy).mp (by simpa using q)
      simp only [mm_br, if_pos hq] at hk
      exact hk
  | gt =>
    refine lv_icmp_gt hx.1 hx.2.1 hd ht (fun q => ?_) (fun q => ?_)
    · have hk := kk ls H locs ⟨hl, hr, hlr, hR, hn, hc, hsu⟩
      have hq : y < x := (mm_lt hy hxx).mp q
      simp only [mm_br, if_pos hq] at hk
      exact hk
    · have hk := kk ls H locs ⟨hl, hr, hlr, hR, hn, hc, hsu⟩
      have hq : ¬ (y < x) := fun z => by
        have z2 := (mm_lt hy hxx).mpr z
        first | exact q z2 | exact absurd z2 (by simpa using q) | exact absurd z2 (Int32.not_lt.mpr q) | exact absurd q (Int32.not_le.mpr z2)
      simp only [mm_br, if_neg hq] at hk
      exact hk
  | le =>
    refine lv_icmp_le hx.1 hx.2.1 hd ht (fun q => ?_) (fun q => ?_)
    · have hk := kk ls H locs ⟨hl, hr, hlr, hR, hn, hc, hsu⟩
      have hq : ¬ (y < x) := fun z => by
        have z2 := (mm_lt hy hxx).mpr z
        first | exact q z2 | exact absurd z2 (by simpa using q) | exact absurd z2 (Int32.not_lt.mpr q) | exact absurd q (Int32.not_le.mpr z2)
      simp only [mm_br, if_neg hq] at hk
      exact hk
    · have hk := kk ls H locs ⟨hl, hr, hlr, hR, hn, hc, hsu⟩
      have hq : y < x := (mm_lt hy hxx).mp (by simpa using q)
      simp only [mm_br, if_pos hq] at hk
      exact hk
theorem mm_s_goto {o : Int} (hx : mm_Cx X I p R s m args meth c D cA base b H00) (hG : mm_G I s D cA base b H00 ex L st S cu su ls H locs) (hd : decode (mm_bytes I) pc = .ok (.goto o, len)) (hf : mm_fine I (pc, .goto o, len, tgt) = true) (hs : mm_step mt X I (.goto o) len tgt (pc, L, st, S, cu, su) = some (.inl C')) (kk : mm_kk p l e R s m args below meth c Q I D cA base b H00 (mm_exi (.goto o) ex) tl C') : W p l e R s m args below meth c H locs cu su Q (F0 m pc ls (st.map (mm_phi base b) ++ tl)) := by
  simp only [mm_fine, Bool.and_eq_true, beq_iff_eq, decide_eq_true_eq] at hf
  obtain ⟨rfl, ht⟩ := hf
  cases (show (some (.inl (tgt, L, st, S, cu, su)) : Option mm_O) = some (.inl C') from hs)
  exact lv_goto hx.1 hx.2.1 hd ht (kk ls H locs hG)
end MMS
