-- THE WORLD of the small machine in the machine's heap: object k lies at base + k; ints by Int32.ofInt
def mm_phi (base b : Nat) : mm_V → Value
  | .inl z => .int (Int32.ofInt z)
  | .inr none => .ref b
  | .inr (some k) => .ref (base + k)
theorem mm_phi_cat (base b : Nat) (v : mm_V) : (mm_phi base b v).category = 1 := by
  rcases v with z | _ | k <;> rfl
def mm_inr : mm_V → Prop
  | .inl z => -2147483648 ≤ z ∧ z < 2147483648
  | .inr _ => True
theorem mm_w_of (z : Int) : Int32.ofInt (mm_w z) = Int32.ofInt z := Int32.ofInt_toInt _
theorem mm_w_in (z : Int) : mm_inr (.inl (mm_w z)) := by
  have h1 := Int32.le_toInt (Int32.ofInt z)
  have h2 := Int32.toInt_lt (Int32.ofInt z)
  exact ⟨by show _ ≤ (Int32.ofInt z).toInt; omega, by show (Int32.ofInt z).toInt < _; omega⟩
theorem mm_toInt {z : Int} (h : mm_inr (.inl z)) : (Int32.ofInt z).toInt = z := by
  obtain ⟨h1, h2⟩ := h
  exact Int32.toInt_ofInt_of_le (by omega) (by omega)
theorem mm_w_id {z : Int} (h1 : -2147483648 ≤ z) (h2 : z < 2147483648) : mm_w z = z := mm_toInt ⟨h1, h2⟩
theorem mm_lt {x y : Int} (hx : mm_inr (.inl x)) (hy : mm_inr (.inl y)) : Int32.ofInt x < Int32.ofInt y ↔ x < y := by
  rw [Int32.lt_iff_toInt_lt, mm_toInt hx, mm_toInt hy]
theorem mm_le {x y : Int} (hx : mm_inr (.inl x)) (hy : mm_inr (.inl y)) : Int32.ofInt x ≤ Int32.ofInt y ↔ x ≤ y := by
  rw [Int32.le_iff_toInt_le, mm_toInt hx, mm_toInt hy]
theorem mm_eq {x y : Int} (hx : mm_inr (.inl x)) (hy : mm_inr (.inl y)) : Int32.ofInt x = Int32.ofInt y ↔ x = y := by
  rw [← Int32.toInt_inj, mm_toInt hx, mm_toInt hy]
theorem mm_in0 : mm_inr (.inl 0) := ⟨by decide, by decide⟩
theorem mm_nat {z : Int} (h : mm_inr (.inl z)) : (Int32.ofInt z).toNatClampNeg = z.toNat := by
  show (Int32.ofInt z).toInt.toNat = z.toNat
  rw [mm_toInt h]
theorem mm_vin {i : Int} {n : Nat} (h : mm_inr (.inl i)) (h0 : 0 ≤ i) (h1 : i < n) : vp_in (Int32.ofInt i) n := by
  intro q
  rcases q with q | q
  · have := (mm_lt h mm_in0).mp q
    omega
  · rw [mm_nat h] at q
    omega
theorem mm_tdiv_in {x y : Int} (hx : mm_inr (.inl x)) (hy : 0 < y) : mm_inr (.inl (x.tdiv y)) := by
  obtain ⟨h1, h2⟩ := hx
  rcases Int.lt_or_le x 0 with h | h
  · have e : x.tdiv y = -((-x).tdiv y) := by rw [Int.neg_tdiv, Int.neg_neg]
    have e2 : (-x).tdiv y = (-x) / y := Int.tdiv_eq_ediv_of_nonneg (by omega)
    have h3 : 0 ≤ (-x) / y := Int.ediv_nonneg (by omega) (by omega)
    have h4 : (-x) / y ≤ -x := Int.ediv_le_self y (by omega)
    exact ⟨by rw [e, e2]; omega, by rw [e, e2]; omega⟩
  · have e2 : x.tdiv y = x / y := Int.tdiv_eq_ediv_of_nonneg h
    have h3 : 0 ≤ x / y := Int.ediv_nonneg h (by omega)
    have h4 : x / y ≤ x := Int.ediv_le_self y h
    exact ⟨by rw [e2]; omega, by rw [e2]; omega⟩
theorem mm_tdiv {x y : Int} (hx : mm_inr (.inl x)) (hy : mm_inr (.inl y)) (h0 : 0 < y) : Int32.ofInt x / Int32.ofInt y = Int32.ofInt (x.tdiv y) := by
  rw [← Int32.toInt_inj, Int32.toInt_div, mm_toInt hx, mm_toInt hy, mm_toInt (mm_tdiv_in hx h0)]
  obtain ⟨h1, h2⟩ := mm_tdiv_in hx h0
  exact Int.bmod_eq_of_le (by omega) (by omega)
theorem mm_tmod_in {x y : Int} (hx : mm_inr (.inl x)) (hy : mm_inr (.inl y)) (h0 : 0 < y) : mm_inr (.inl (x.tmod y)) := by
  have h := tmod_bounds (a := x) h0
  obtain ⟨h1, h2⟩ := hy
  exact ⟨by omega, by omega⟩
theorem mm_tmod {x y : Int} (hx : mm_inr (.inl x)) (hy : mm_inr (.inl y)) (h0 : 0 < y) : Int32.ofInt x - Int32.ofInt x / Int32.ofInt y * Int32.ofInt y = Int32.ofInt (x.tmod y) := by
  rw [mm_tdiv hx hy h0, ← Int32.ofInt_mul, ← Int32.ofInt_sub, Int.tmod_def, Int.mul_comm]
theorem mm_and_in (x y : Int) : mm_inr (.inl (Int32.ofInt x &&& Int32.ofInt y).toInt) := by
  have h1 := Int32.le_toInt (Int32.ofInt x &&& Int32.ofInt y)
  have h2 := Int32.toInt_lt (Int32.ofInt x &&& Int32.ofInt y)
  exact ⟨by omega, by omega⟩
theorem mm_i2c {x : Int} (hx : mm_inr (.inl x)) : ((Int32.ofInt x).toUInt32 % 65536).toInt32 = Int32.ofInt (x % 65536) := by
  have h1 : 0 ≤ x % 65536 := Int.emod_nonneg _ (by decide)
  have h2 : x % 65536 < 65536 := Int.emod_lt_of_pos _ (by decide)
  rw [lg_i2c_nf, ← Int32.toInt_inj, lg_i2c_toInt, mm_toInt hx, mm_toInt ⟨by omega, by omega⟩]
  rfl
theorem mm_i8 {n : Int} (h1 : -128 ≤ n) (h2 : n < 128) : (Int8.ofInt n).toInt32 = Int32.ofInt n := by
  rw [← Int32.toInt_inj, Int8.toInt_toInt32, mm_toInt ⟨by omega, by omega⟩]
  exact Int8.toInt_ofInt_of_le (by omega) (by omega)
theorem mm_i16 {n : Int} (h1 : -32768 ≤ n) (h2 : n < 32768) : (Int16.ofInt n).toInt32 = Int32.ofInt n := by
  rw [← Int32.toInt_inj, Int16.toInt_toInt32, mm_toInt ⟨by omega, by omega⟩]
  exact Int16.toInt_ofInt_of_le (by omega) (by omega)
-- locals
def mm_prs (base b : Nat) (L : mm_L) : List (Nat × Value) := (List.range L.length).filterMap fun i => (mm_ld L i).map fun v => (i, mm_phi base b v)
theorem mm_ld_lt {L : mm_L} {i : Nat} {v : mm_V} (h : mm_ld L i = some v) : i < L.length := by
  unfold mm_ld at h
  rcases Nat.lt_or_ge i L.length with q | q
  · exact q
  · rw [List.getElem?_eq_none q] at h
    cases h
theorem mm_prs_mem {base b : Nat} {L : mm_L} {q : Nat × Value} : q ∈ mm_prs base b L ↔ ∃ v, mm_ld L q.1 = some v ∧ q.2 = mm_phi base b v := by
  unfold mm_prs
  rw [List.mem_filterMap]
  constructor
  · rintro ⟨i, -, h⟩
    cases hv : mm_ld L i with
    | none => rw [hv] at h; cases h
    | some v => rw [hv] at h; cases h; exact ⟨v, hv, rfl⟩
  · rintro ⟨v, h1, h2⟩
    exact ⟨q.1, List.mem_range.mpr (mm_ld_lt h1), by rw [h1, Option.map_some, ← h2]⟩
theorem mm_ld_set {L : mm_L} {i j : Nat} {v w : mm_V} (h : mm_ld (L.set i (some v)) j = some w) : (j = i ∧ w = v) ∨ (j ≠ i ∧ mm_ld L j = some w) := by
  unfold mm_ld at h
  rw [List.getElem?_set] at h
  by_cases hij : i = j
  · rw [if_pos hij] at h
    by_cases hl : i < L.length
    · rw [if_pos hl] at h
      cases h
      exact Or.inl ⟨hij.symm, rfl⟩
    · rw [if_neg hl] at h
      cases h
  · rw [if_neg hij] at h
    exact Or.inr ⟨fun q => hij q.symm, h⟩
/-- which of some further locals an instruction leaves -/
def mm_exf (i : Nat) (ex : List (Nat × Value)) : List (Nat × Value) := ex.filter (fun q => !(q.1 == i) && !(q.1 + 1 == i && q.2.category == 2))
def mm_exi (ins : Instr) (ex : List (Nat × Value)) : List (Nat × Value) := match ins with
  | .istore i => mm_exf i ex
  | .istore_n i => mm_exf i.val ex
  | .astore_n i => mm_exf i.val ex
  | .iinc i _ => mm_exf i ex
  | _ => ex
theorem mm_lv_set {base b nL i : Nat} {L : mm_L} {v : mm_V} {ex : List (Nat × Value)} {ls : Array Slot} (h : lv_has ls nL ((i, mm_phi base b v) :: (ex ++ mm_prs base b L).filter (fun q => !(q.1 == i) && !(q.1 + 1 == i && q.2.category == 2)))) : lv_has ls nL (mm_exf i ex ++ mm_prs base b (L.set i (some v))) := by
  refine ⟨h.1, h.2.1, fun q hq => h.2.2 q ?_⟩
  rw [List.filter_append]
  rcases List.mem_append.mp hq with hq | hq
  · exact List.mem_cons_of_mem _ (List.mem_append_left _ hq)
  obtain ⟨w, h1, h2⟩ := mm_prs_mem.mp hq
  rcases mm_ld_set h1 with ⟨e1, e2⟩ | ⟨e1, e2⟩
  · subst e2
    obtain ⟨q1, q2⟩ := q
    dsimp only at e1 h2
    rw [e1, h2]
    exact List.mem_cons_self
  · refine List.mem_cons_of_mem _ (List.mem_append_right _ (List.mem_filter.mpr ⟨mm_prs_mem.mpr ⟨w, e2, h2⟩, ?_⟩))
    rw [h2, mm_phi_cat]
    simp [e1]
theorem mm_lv_at {base b nL i : Nat} {L : mm_L} {v : mm_V} {ex : List (Nat × Value)} {ls : Array Slot} (h : lv_has ls nL (ex ++ mm_prs base b L)) (hv : mm_ld L i = some v) : ls[i]? = some (.val (mm_phi base b v)) :=
  h.2.2 (i, mm_phi base b v) (List.mem_append_right _ (mm_prs_mem.mpr ⟨v, hv, rfl⟩))
theorem mm_lv_idx {base b i : Nat} {L : mm_L} {v : mm_V} {ex : List (Nat × Value)} (hv : mm_ld L i = some v) : ∃ k : Nat, (ex ++ mm_prs base b L)[k]? = some (i, mm_phi base b v) :=
  List.getElem?_of_mem (List.mem_append_right _ (mm_prs_mem.mpr ⟨v, hv, rfl⟩))
-- the cells
def mm_isref (ci k : Nat) : Bool := match classes[ci]? with
  | some q => !(decide ((q.2.1 k).2.2.1 = "I") || decide ((q.2.1 k).2.2.1 = "Z"))
  | none => false
def mm_fv (base : Nat) (S : mm_S) (ci a k : Nat) : Value := if mm_isref ci k = true then va_rf ((S.2.2 a k).map (base + ·)) else .int (Int32.ofInt (S.2.1 a k))
def mm_ent (cA : Nat → ClassId) (base : Nat) (S : mm_S) (a : Nat) (sh : Nat × Nat) : va_E :=
  if sh.1 < 10 then .inr (sh.1, (List.range sh.2).map (mm_fv base S sh.1 a))
  else if sh.1 = 13 then .inl (cA 13, sh.2, .inr (.inr (.inr (.inr (fun j => (S.2.2 a j).map (base + ·))))))
  else .inl (cA sh.1, sh.2, .inl (fun j => Int32.ofInt (S.2.1 a j)))
def mm_wld (cA : Nat → ClassId) (base : Nat) (S : mm_S) : va_W := S.1.mapIdx fun a sh => (base + a, mm_ent cA base S a sh)
theorem mm_wld_at {cA : Nat → ClassId} {base : Nat} {S : mm_S} {a : Nat} {sh : Nat × Nat} (h : S.1[a]? = some sh) : (mm_wld cA base S)[a]? = some (base + a, mm_ent cA base S a sh) := by
  simp [mm_wld, List.getElem?_mapIdx, h]
theorem mm_wld_inv {cA : Nat → ClassId} {base : Nat} {S : mm_S} {a : Nat} {q : Nat × va_E} (h : (mm_wld cA base S)[a]? = some q) : ∃ sh, S.1[a]? = some sh ∧ q = (base + a, mm_ent cA base S a sh) := by
  simp only [mm_wld, List.getElem?_mapIdx, Option.map_eq_some_iff] at h
  obtain ⟨sh, h1, h2⟩ := h
  exact ⟨sh, h1, h2.symm⟩
theorem mm_wld_D {cA : Nat → ClassId} {base : Nat} {S : mm_S} : va_D (fun q : Nat => base ≤ q) (mm_wld cA base S) := by
  refine ⟨fun i j x y hi hj hxy => ?_, fun k q hk => ?_⟩
  · obtain ⟨_, -, rfl⟩ := mm_wld_inv hi
    obtain ⟨_, -, rfl⟩ := mm_wld_inv hj
    have : base + i = base + j := hxy
    omega
  · obtain ⟨_, -, rfl⟩ := mm_wld_inv hk
    exact Nat.le_add_right _ _
theorem mm_wld_set {cA : Nat → ClassId} {base : Nat} {S S' : mm_S} {a : Nat} {sh : Nat × Nat} {e : va_E} (h : S.1[a]? = some sh) (hs : S'.1 = S.1) (he : mm_ent cA base S' a sh = e) (ho : ∀ (k : Nat) (sh' : Nat × Nat), k ≠ a → mm_ent cA base S' k sh' = mm_ent cA base S k sh') : (mm_wld cA base S).set a (base + a, e) = mm_wld cA base S' := by
  apply List.ext_getElem?
  intro i
  rw [List.getElem?_set]
  by_cases hi : a = i
  · subst hi
    rw [if_pos rfl, if_pos (by rw [mm_wld, List.length_mapIdx]; exact (List.getElem?_eq_some_iff.mp h).1), mm_wld_at (by rw [hs]; exact h), he]
  · rw [if_neg hi]
    simp only [mm_wld, List.getElem?_mapIdx, hs]
    cases S.1[i]? with
    | none => rfl
    | some sh' => simp only [Option.map_some, ho i sh' (fun q => hi q.symm)]
theorem mm_wld_push {cA : Nat → ClassId} {base : Nat} {S : mm_S} {sh : Nat × Nat} : mm_wld cA base (S.1 ++ [sh], S.2.1, S.2.2) = mm_wld cA base S ++ [(base + S.1.length, mm_ent cA base S S.1.length sh)] := by
  unfold mm_wld
  rw [List.mapIdx_append]
  simp
  exact ⟨rfl, rfl⟩
/-- shapes are as the classes say; ints are in range; what isn't made yet is blank -/
def mm_sh (S : mm_S) : Prop := ∀ (a kd n : Nat), S.1[a]? = some (kd, n) → n ≤ 10000 ∧ (kd < 10 → ∃ (C : String) (T : u_T), classes[kd]? = some (C, T, n)) ∧ (10 ≤ kd → kd ≤ 13)
def mm_rg (S : mm_S) : Prop := ∀ a k : Nat, mm_inr (.inl (S.2.1 a k))
def mm_zz (S : mm_S) : Prop := ∀ a : Nat, S.1.length ≤ a → ∀ k, S.2.1 a k = 0 ∧ S.2.2 a k = none
def mm_Rel (D : va_G) (cA : Nat → ClassId) (base : Nat) (H00 : Heap) (S : mm_S) (H : Heap) (locs : List Loc) : Prop :=
  va_P D classes (mm_wld cA base S) H ∧ va_S (fun q : Nat => base ≤ q) H00 H locs ∧ mm_sh S ∧ mm_rg S ∧ mm_zz S
def mm_tys (cA : Nat → ClassId) : List (ClassId × FieldType) := [(cA 10, .int), (cA 11, .int), (cA 12, .char), (cA 13, .object RX4)]
/-- what is known of the classes and of the script, at any state of the run -/
def mm_Wd (X : Nat × (Nat → Int)) (D : va_G) (cA : Nat → ClassId) (base b : Nat) (H00 : Heap) (U : State) : Prop :=
  va_K D classes (mm_tys cA) U ∧ va_AO RX4 U ∧ (∀ q ∈ mt_nest, va_Nw (.methodLinkNest q.1 q.2.1 q.2.2.1 q.2.2.2) U) ∧ (∃ xs : Nat → Int32, va_X b X.1 xs U H00 ∧ X.2 = fun j => (xs j).toInt) ∧ b < base ∧ H00.size = base ∧ X.1 ≤ 10000
theorem mm_Wd.moved {X : Nat × (Nat → Int)} {D : va_G} {cA : Nat → ClassId} {base b : Nat} {H00 : Heap} {u U : State} (hW : u.WarmedH U.vm) (h : mm_Wd X D cA base b H00 u) : mm_Wd X D cA base b H00 U := by
  obtain ⟨h1, h2, h3, ⟨xs, h4, h5⟩, h6⟩ := h
  exact ⟨va_K.moved hW.alike h1, h2.moved hW.alike, fun q hq => (h3 q hq).warmM hW, ⟨xs, h4.moved hW.alike, h5⟩, h6⟩
theorem mm_Wd.same {X : Nat × (Nat → Int)} {D : va_G} {cA : Nat → ClassId} {base b : Nat} {H00 : Heap} {u U : State} (hv : U.vm = u.vm) (h : mm_Wd X D cA base b H00 u) : mm_Wd X D cA base b H00 U := by
  obtain ⟨h1, h2, h3, ⟨xs, h4, h5⟩, h6⟩ := h
  have ha : u.vm.Alike U.vm := by rw [hv]; exact Vm.Alike.refl _
  exact ⟨va_K.moved ha h1, h2.moved ha, fun q hq => (h3 q hq).same rfl hv.symm, ⟨xs, h4.moved ha, h5⟩, h6⟩
