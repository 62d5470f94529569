-- GATHERING, as a machine on lists: a stack of rows with the place where each goes on (top at the end), marks, the list of gathered rows
def gCh (B : Int → Int) (e : Nat) : Int := 100 * kOf B ((e / 100 : Nat) : Int) 0 + ((e % 100 : Nat) : Int)
abbrev gCasc (B : Int → Int) (e : Nat) (x : Int) : Prop := kOf B ((e / 100 : Nat) : Int) 3 = 2 ∧ kIsCh B ((e / 100 : Nat) : Int) ((e % 100 : Nat) : Int) x
def gCand (B : Int → Int) (mk : Int → Bool) (x : Int) (e : Nat) : Bool := decide (gCasc B e x) && !mk (gCh B e)
def gR (B : Int → Int) : Nat := 100 * (B 1).toNat
def gNx (B : Int → Int) (mk : Int → Bool) (x : Int) (e : Nat) : Option Nat := (List.range' e (gR B - e)).find? (gCand B mk x)
abbrev gC : Type := List (Int × Nat) × (Int → Bool) × List Int
def gUp (mk : Int → Bool) (y : Int) : Int → Bool := fun z => if z = y then true else mk z
def gStep (B : Int → Int) (C : gC) : gC := match C.1.getLast? with
  | none => C
  | some (x, e) => match gNx B C.2.1 x e with
    | some e2 => (C.1.dropLast ++ [(x, e2 + 1), (gCh B e2, 0)], gUp C.2.1 (gCh B e2), C.2.2)
    | none => (C.1.dropLast, C.2.1, C.2.2 ++ [x])
def gIt (B : Int → Int) : Nat → gC → gC
  | 0, C => C
  | n + 1, C => gIt B n (gStep B C)
def gAll (C : gC) : List Int := C.1.map Prod.fst ++ C.2.2
def gEx (B : Int → Int) : List Int := ((List.range 600).map (fun n : Nat => (n : Int))).filter (fun x => decide (0 ≤ kCe B x))
def gInv (B : Int → Int) (C : gC) : Prop :=
  (∀ x ∈ gAll C, (0 ≤ x ∧ x < 600) ∧ 0 ≤ kCe B x) ∧ (gAll C).Nodup ∧ (∀ x, C.2.1 x = true ↔ x ∈ gAll C) ∧
  (∀ q ∈ C.1, q.2 ≤ gR B ∧ ∀ e, e < q.2 → gCasc B e q.1 → C.2.1 (gCh B e) = true) ∧ (∀ x ∈ C.2.2, ∀ e, e < gR B → gCasc B e x → C.2.1 (gCh B e) = true)
theorem gNx_self {B : Int → Int} {mk : Int → Bool} {x : Int} {e : Nat} (he : e < gR B) (hc : gCand B mk x e = true) : gNx B mk x e = some e := by
  unfold gNx
  rw [show gR B - e = (gR B - (e + 1)) + 1 by omega, List.range'_succ, List.find?_cons, hc]
theorem gNx_next {B : Int → Int} {mk : Int → Bool} {x : Int} {e : Nat} (he : e < gR B) (hc : gCand B mk x e = false) : gNx B mk x e = gNx B mk x (e + 1) := by
  unfold gNx
  rw [show gR B - e = (gR B - (e + 1)) + 1 by omega, List.range'_succ, List.find?_cons, hc]
theorem gNx_end {B : Int → Int} {mk : Int → Bool} {x : Int} {e : Nat} (he : gR B ≤ e) : gNx B mk x e = none := by
  unfold gNx
  rw [show gR B - e = 0 by omega]
  rfl
theorem gNx_some {B : Int → Int} {mk : Int → Bool} {x : Int} {e e2 : Nat} (h : gNx B mk x e = some e2) : e ≤ e2 ∧ e2 < gR B ∧ gCand B mk x e2 = true ∧ ∀ e3, e ≤ e3 → e3 < e2 → gCand B mk x e3 = false := by
  have key : ∀ d e, gR B - e = d → gNx B mk x e = some e2 → e ≤ e2 ∧ e2 < gR B ∧ gCand B mk x e2 = true ∧ ∀ e3, e ≤ e3 → e3 < e2 → gCand B mk x e3 = false := by
    intro d
    induction d with
    | zero => intro e hd h; rw [gNx_end (by omega)] at h; cases h
    | succ d ih =>
      intro e hd h
      cases hc : gCand B mk x e with
      | true =>
        rw [gNx_self (by omega) hc] at h
        cases h
        exact ⟨Nat.le_refl _, by omega, hc, fun e3 h1 h2 => by omega⟩
      | false =>
        rw [gNx_next (by omega) hc] at h
        obtain ⟨h1, h2, h3, h4⟩ := ih (e + 1) (by omega) h
        refine ⟨by omega, h2, h3, fun e3 h5 h6 => ?_⟩
        rcases Nat.eq_or_lt_of_le h5 with q | q
        · rw [← q]; exact hc
        · exact h4 e3 q h6
  exact key _ e rfl h
theorem gNx_none {B : Int → Int} {mk : Int → Bool} {x : Int} {e : Nat} (h : gNx B mk x e = none) : ∀ e3, e ≤ e3 → e3 < gR B → gCand B mk x e3 = false := by
  have key : ∀ d e, gR B - e = d → gNx B mk x e = none → ∀ e3, e ≤ e3 → e3 < gR B → gCand B mk x e3 = false := by
    intro d
    induction d with
    | zero => intro e hd h e3 h1 h2; omega
    | succ d ih =>
      intro e hd h e3 h1 h2
      cases hc : gCand B mk x e with
      | true => rw [gNx_self (by omega) hc] at h; cases h
      | false =>
        rw [gNx_next (by omega) hc] at h
        rcases Nat.eq_or_lt_of_le h1 with q | q
        · rw [← q]; exact hc
        · exact ih (e + 1) (by omega) h e3 q h2
  exact key _ e rfl h
theorem snoc_cases {α : Type} (l : List α) : l = [] ∨ ∃ (r : List α) (q : α), l = r ++ [q] := by
  rcases List.eq_nil_or_concat l with h | ⟨r, q, h⟩
  · exact Or.inl h
  · exact Or.inr ⟨r, q, by rw [h, List.concat_eq_append]⟩
theorem gStep_nil {B : Int → Int} {mk : Int → Bool} {out : List Int} : gStep B ([], mk, out) = ([], mk, out) := rfl
theorem gStep_some {B : Int → Int} {r : List (Int × Nat)} {x : Int} {e e2 : Nat} {mk : Int → Bool} {out : List Int} (h : gNx B mk x e = some e2) : gStep B (r ++ [(x, e)], mk, out) = (r ++ [(x, e2 + 1), (gCh B e2, 0)], gUp mk (gCh B e2), out) := by
  unfold gStep
  simp only [List.getLast?_concat, List.dropLast_concat, h]
theorem gStep_none {B : Int → Int} {r : List (Int × Nat)} {x : Int} {e : Nat} {mk : Int → Bool} {out : List Int} (h : gNx B mk x e = none) : gStep B (r ++ [(x, e)], mk, out) = (r, mk, out ++ [x]) := by
  unfold gStep
  simp only [List.getLast?_concat, List.dropLast_concat, h]
theorem gCand_iff {B : Int → Int} {mk : Int → Bool} {x : Int} {e : Nat} : gCand B mk x e = true ↔ gCasc B e x ∧ mk (gCh B e) = false := by
  unfold gCand
  rw [Bool.and_eq_true, decide_eq_true_eq, Bool.not_eq_true']
theorem gCh_in {B : Int → Int} (hW : kWr B) {e : Nat} (he : e < gR B) : 0 ≤ gCh B e ∧ gCh B e < 600 := by
  have hd : e / 100 < (B 1).toNat := Nat.div_lt_of_lt_mul (by unfold gR at he; omega)
  have hm : e % 100 < 100 := Nat.mod_lt _ (by decide)
  have := (hW.2.2.1 ((e / 100 : Nat) : Int) (by omega) (by omega)).1
  have h6 := hW.1
  unfold gCh
  omega
theorem gInv_step {B : Int → Int} (hW : kWr B) {C : gC} (h : gInv B C) : gInv B (gStep B C) := by
  obtain ⟨stk, mk, out⟩ := C
  rcases snoc_cases stk with rfl | ⟨r, q, rfl⟩
  · exact h
  · obtain ⟨x, e⟩ := q
    obtain ⟨h1, h2, h3, h4, h5⟩ := h
    simp only [gAll, List.map_append, List.map_cons, List.map_nil] at h1 h2 h3
    cases hn : gNx B mk x e with
    | some e2 =>
      rw [gStep_some hn]
      obtain ⟨g1, g2, g3, g4⟩ := gNx_some hn
      obtain ⟨g5, g6⟩ := gCand_iff.mp g3
      have hch := gCh_in hW g2
      have hnew : gCh B e2 ∉ List.map Prod.fst r ++ [x] ++ out := fun z => by
        have := (h3 _).mpr z
        rw [show mk (gCh B e2) = false from g6] at this
        cases this
      have hperm : (List.map Prod.fst r ++ [x, gCh B e2] ++ out).Perm (gCh B e2 :: (List.map Prod.fst r ++ [x] ++ out)) := by
        rw [show List.map Prod.fst r ++ [x, gCh B e2] ++ out = (List.map Prod.fst r ++ [x]) ++ gCh B e2 :: out by simp, show gCh B e2 :: (List.map Prod.fst r ++ [x] ++ out) = gCh B e2 :: ((List.map Prod.fst r ++ [x]) ++ out) by simp]
        exact List.perm_middle
      have hmem : ∀ z, z ∈ gAll (r ++ [(x, e2 + 1), (gCh B e2, 0)], gUp mk (gCh B e2), out) ↔ z = gCh B e2 ∨ z ∈ List.map Prod.fst r ++ [x] ++ out := by
        intro z
        rw [← List.mem_cons, ← hperm.mem_iff]
        simp [gAll]
      refine ⟨fun z hz => ?_, ?_, fun z => ?_, fun q hq => ?_, fun z hz e3 h6 h7 => ?_⟩
      · rcases (hmem z).mp hz with rfl | hz
        · exact ⟨hch, g5.2.1⟩
        · exact h1 z hz
      · have : (List.map Prod.fst r ++ [x, gCh B e2] ++ out).Nodup := hperm.nodup_iff.mpr (List.nodup_cons.mpr ⟨hnew, h2⟩)
        simpa [gAll] using this
      · rw [hmem]
        show gUp mk (gCh B e2) z = true ↔ _
        unfold gUp
        by_cases hz : z = gCh B e2
        · rw [if_pos hz]; exact ⟨fun _ => Or.inl hz, fun _ => rfl⟩
        · rw [if_neg hz]; exact ⟨fun w => Or.inr ((h3 z).mp w), fun w => (h3 z).mpr (w.resolve_left hz)⟩
      · have up : ∀ w, mk w = true → gUp mk (gCh B e2) w = true := fun w hw => by unfold gUp; split; rfl; exact hw
        rcases List.mem_append.mp hq with hq | hq
        · obtain ⟨k1, k2⟩ := h4 q (List.mem_append_left _ hq)
          exact ⟨k1, fun e3 h6 h7 => up _ (k2 e3 h6 h7)⟩
        · simp only [List.mem_cons, List.not_mem_nil, or_false] at hq
          rcases hq with rfl | rfl
          · refine ⟨g2, fun e3 h6 h7 => ?_⟩
            show gUp mk (gCh B e2) (gCh B e3) = true
            obtain ⟨k1, k2⟩ := h4 (x, e) (List.mem_append_right _ List.mem_cons_self)
            by_cases q1 : e3 < e
            · exact up _ (k2 e3 q1 h7)
            · by_cases q2 : e3 = e2
              · rw [q2]; unfold gUp; rw [if_pos rfl]
              · have := g4 e3 (by omega) (by dsimp only at h6; omega)
                cases hmk : mk (gCh B e3) with
                | true => exact up _ hmk
                | false =>
                  rw [gCand_iff.mpr ⟨h7, hmk⟩] at this
                  cases this
          · exact ⟨Nat.zero_le _, fun e3 h6 => by dsimp only at h6; omega⟩
      · have up : ∀ w, mk w = true → gUp mk (gCh B e2) w = true := fun w hw => by unfold gUp; split; rfl; exact hw
        exact up _ (h5 z hz e3 h6 h7)
    | none =>
      rw [gStep_none hn]
      have hperm : (List.map Prod.fst r ++ (out ++ [x])).Perm (List.map Prod.fst r ++ [x] ++ out) := by
        rw [List.append_assoc]
        exact List.Perm.append_left _ List.perm_append_comm
      refine ⟨fun z hz => h1 z (hperm.mem_iff.mp hz), hperm.nodup_iff.mpr h2, fun z => (h3 z).trans hperm.mem_iff.symm, fun q hq => h4 q (List.mem_append_left _ hq), fun z hz e3 h6 h7 => ?_⟩
      rcases List.mem_append.mp hz with hz | hz
      · exact h5 z hz e3 h6 h7
      · have ez := List.mem_singleton.mp hz
        subst ez
        obtain ⟨k1, k2⟩ := h4 (z, e) (List.mem_append_right _ List.mem_cons_self)
        show mk (gCh B e3) = true
        by_cases q1 : e3 < e
        · exact k2 e3 q1 h7
        · have := gNx_none hn e3 (by omega) h6
          cases hmk : mk (gCh B e3) with
          | true => rfl
          | false =>
            rw [gCand_iff.mpr ⟨h7, hmk⟩] at this
            cases this
theorem nodup_len {l m : List Int} (h : l.Nodup) (hs : ∀ x ∈ l, x ∈ m) : l.length ≤ m.length := by
  induction l generalizing m with
  | nil => exact Nat.zero_le _
  | cons a r ih =>
    obtain ⟨h1, h2⟩ := List.nodup_cons.mp h
    have ha := hs a List.mem_cons_self
    have := ih (m := m.erase a) h2 (fun x hx => (List.mem_erase_of_ne (fun z => h1 (by rw [← z]; exact hx))).mpr (hs x (List.mem_cons_of_mem _ hx)))
    rw [List.length_erase_of_mem ha] at this
    have hp : 0 < m.length := List.length_pos_of_mem ha
    rw [List.length_cons]
    omega
theorem gAll_len {B : Int → Int} {C : gC} (h : gInv B C) (hE : (gEx B).length ≤ 120) : C.1.length + C.2.2.length ≤ 120 := by
  have h1 := nodup_len (m := gEx B) h.2.1 (fun x hx => by
    obtain ⟨⟨k1, k2⟩, k3⟩ := h.1 x hx
    refine List.mem_filter.mpr ⟨List.mem_map.mpr ⟨x.toNat, List.mem_range.mpr (by omega), by omega⟩, by simpa using k3⟩)
  rw [gAll, List.length_append, List.length_map] at h1
  omega
theorem gIt_nil {B : Int → Int} {mk : Int → Bool} {out : List Int} : ∀ n, gIt B n ([], mk, out) = ([], mk, out) := by
  intro n
  induction n with
  | zero => rfl
  | succ n ih => unfold gIt; rw [gStep_nil]; exact ih
/-- the stack is empty after so many steps -/
theorem gIt_end {B : Int → Int} (hW : kWr B) (hE : (gEx B).length ≤ 120) : ∀ (n : Nat) (C : gC), gInv B C → 2 * (120 - (C.1.length + C.2.2.length)) + C.1.length ≤ n → (gIt B n C).1 = [] := by
  intro n
  induction n with
  | zero =>
    intro C h hn
    show C.1 = []
    exact List.length_eq_zero_iff.mp (by omega)
  | succ n ih =>
    intro C h hn
    have h2 := gAll_len (gInv_step hW h) hE
    have h0 := gAll_len h hE
    have h3 := ih (gStep B C) (gInv_step hW h)
    obtain ⟨stk, mk, out⟩ := C
    rcases snoc_cases stk with rfl | ⟨r, q, rfl⟩
    · rw [gIt_nil]
    · unfold gIt
      refine h3 ?_
      obtain ⟨x, e⟩ := q
      cases hnx : gNx B mk x e with
      | some e2 =>
        rw [gStep_some hnx] at h2 ⊢
        simp only [List.length_append, List.length_cons, List.length_nil] at hn h0 h2 ⊢
        omega
      | none =>
        rw [gStep_none hnx] at h2 ⊢
        simp only [List.length_append, List.length_cons, List.length_nil] at hn h0 h2 ⊢
        omega
theorem gInv_it {B : Int → Int} (hW : kWr B) : ∀ (n : Nat) (C : gC), gInv B C → gInv B (gIt B n C) := by
  intro n
  induction n with
  | zero => exact fun C h => h
  | succ n ih => exact fun C h => ih _ (gInv_step hW h)
def gIni (x : Int) : gC := ([(x, 0)], gUp (fun _ => false) x, [])
def gRes (B : Int → Int) (x : Int) : gC := gIt B 240 (gIni x)
theorem gIni_inv {B : Int → Int} {x : Int} (hx : 0 ≤ x ∧ x < 600) (hc : 0 ≤ kCe B x) : gInv B (gIni x) := by
  refine ⟨fun z hz => ?_, ?_, fun z => ?_, fun q hq => ?_, fun z hz => by cases hz⟩
  · have : z = x := by simpa [gAll, gIni] using hz
    subst this
    exact ⟨hx, hc⟩
  · simp [gAll, gIni]
  · simp [gAll, gIni, gUp]
  · have : q = (x, 0) := by simpa [gIni] using hq
    subst this
    exact ⟨Nat.zero_le _, fun e he => by dsimp only at he; omega⟩
