-- A SMALL MACHINE over the bytecode: values, memory, one step, a run. Ints are mathematical ints (wrapped after each operation); objects are numbered in the order in which they are made.
abbrev mm_V : Type := Int ⊕ Option Nat
abbrev mm_L : Type := List (Option mm_V)
/-- memory: the shapes (kind, number of fields or elements), ints, references -/
abbrev mm_S : Type := List (Nat × Nat) × (Nat → Nat → Int) × (Nat → Nat → Option Nat)
/-- a frame: place, locals, operand stack, memory, cells and slots made so far by this call -/
abbrev mm_C : Type := Nat × mm_L × List mm_V × mm_S × Nat × Nat
/-- what a step leads to: the next place; a call (method, arguments, what stands when it is back); an end -/
abbrev mm_O : Type := mm_C ⊕ ((Nat × List mm_V × mm_C) ⊕ (Option mm_V × mm_S))
/-- a method: name, bytes, locals, result, own class, arguments with the receiver, is it a constructor, is its result boolean, frames, local words, cells, slots -/
abbrev mm_I : Type := MethodName × ByteArray × Nat × Option FieldType × Nat × Nat × Bool × Bool × Nat × Nat × Nat × Nat
def mm_y (I : mm_I) : MethodName := I.1
def mm_bytes (I : mm_I) : ByteArray := I.2.1
def mm_maxL (I : mm_I) : Nat := I.2.2.1
def mm_ret (I : mm_I) : Option FieldType := I.2.2.2.1
def mm_own (I : mm_I) : Nat := I.2.2.2.2.1
def mm_nargs (I : mm_I) : Nat := I.2.2.2.2.2.1
def mm_ctor (I : mm_I) : Bool := I.2.2.2.2.2.2.1
def mm_bool (I : mm_I) : Bool := I.2.2.2.2.2.2.2.1
def mm_rf (I : mm_I) : Nat := I.2.2.2.2.2.2.2.2.1
def mm_rl (I : mm_I) : Nat := I.2.2.2.2.2.2.2.2.2.1
def mm_mc (I : mm_I) : Nat := I.2.2.2.2.2.2.2.2.2.2.1
def mm_ms (I : mm_I) : Nat := I.2.2.2.2.2.2.2.2.2.2.2
/-- the code of a method, in chunks of 32 bytes: place, instruction, length, target -/
abbrev mm_K : Type := List (List (Nat × Instr × Nat × Nat))
def mm_lk : List (Nat × Instr × Nat × Nat) → Nat → Option (Instr × Nat × Nat)
  | [], _ => none
  | q :: r, pc => bif q.1 == pc then some q.2 else mm_lk r pc
def mm_at (K : mm_K) (pc : Nat) : Option (Instr × Nat × Nat) := mm_lk (K.getD (pc / 32) []) pc
/-- links by their number: fields (index, class, field, kind: 0 int, 1 boolean, 2 reference, final, place), methods (index, kind, callee, places), classes (index, class, places) -/
abbrev mm_FL : Type := List (Nat × Nat × Nat × Nat × Bool × Nat)
abbrev mm_ML : Type := List (Nat × Nat × Nat × List Nat)
abbrev mm_NL : Type := List (Nat × Nat × List Nat)
def mm_ff : mm_FL → Nat → Option (Nat × Nat × Nat × Bool × Nat)
  | [], _ => none
  | q :: r, i => bif q.1 == i then some q.2 else mm_ff r i
def mm_fm : mm_ML → Nat → Option (Nat × Nat × List Nat)
  | [], _ => none
  | q :: r, i => bif q.1 == i then some q.2 else mm_fm r i
def mm_fn : mm_NL → Nat → Option (Nat × List Nat)
  | [], _ => none
  | q :: r, i => bif q.1 == i then some q.2 else mm_fn r i
/-- the tables of all methods -/
abbrev mm_T : Type := List (mm_I × mm_K) × List mm_FL × List mm_ML × List mm_NL
def mm_w (z : Int) : Int := (Int32.ofInt z).toInt
def mm_up (f : Nat → Nat → Int) (a k : Nat) (v : Int) : Nat → Nat → Int := fun b j => if b = a then (if j = k then v else f b j) else f b j
def mm_upr (f : Nat → Nat → Option Nat) (a k : Nat) (v : Nat) : Nat → Nat → Option Nat := fun b j => if b = a then (if j = k then some v else f b j) else f b j
def mm_cpy (f : Nat → Nat → Int) (a sp d dp n : Nat) : Nat → Nat → Int := fun b j => if b = d then (if dp ≤ j ∧ j < dp + n then f a (sp + (j - dp)) else f b j) else f b j
def mm_ld (ls : mm_L) (i : Nat) : Option mm_V := match ls[i]? with
  | some v => v
  | none => none
def mm_nx (pc : Nat) (ls : mm_L) (st : List mm_V) (S : mm_S) (cu su : Nat) : Option mm_O := some (.inl (pc, ls, st, S, cu, su))
def mm_br (c : ClassFile.Cond) (x y : Int) (t f : Nat) : Nat := match c with
  | .eq => if x = y then t else f
  | .ne => if x = y then f else t
  | .lt => if x < y then t else f
  | .ge => if x < y then f else t
  | .gt => if y < x then t else f
  | .le => if y < x then f else t
def mm_kind (S : mm_S) (a : Nat) : Option (Nat × Nat) := S.1[a]?
/-- an index into an array of a kind -/
def mm_el (S : mm_S) (kd a : Nat) (i : Int) : Bool := match S.1[a]? with
  | some (k, n) => k == kd && decide (0 ≤ i) && decide (i < n)
  | none => false
def mm_isc (S : mm_S) (ci a : Nat) : Bool := match S.1[a]? with
  | some (k, _) => k == ci
  | none => false
/-- the law's two ints out of its constants -/
def mm_ck (o i : Nat) : Option Int := bif o == 7 && i == 7 then some 1812433253 else bif o == 7 && i == 8 then some 2147483647 else none
def mm_step (Ts : mm_T) (X : Nat × (Nat → Int)) (I : mm_I) (ins : Instr) (len tgt : Nat) : mm_C → Option mm_O
  | (pc, ls, st, S, cu, su) =>
  match ins with
  | .iconst i => mm_nx (pc + len) ls (.inl i :: st) S cu su
  | .bipush i => mm_nx (pc + len) ls (.inl i :: st) S cu su
  | .sipush i => mm_nx (pc + len) ls (.inl i :: st) S cu su
  | .iload i => match mm_ld ls i with
    | some (.inl z) => mm_nx (pc + len) ls (.inl z :: st) S cu su
    | _ => none
  | .iload_n i => match mm_ld ls i.val with
    | some (.inl z) => mm_nx (pc + len) ls (.inl z :: st) S cu su
    | _ => none
  | .aload_n i => match mm_ld ls i.val with
    | some (.inr a) => mm_nx (pc + len) ls (.inr a :: st) S cu su
    | _ => none
  | .istore i => match st with
    | .inl z :: r => mm_nx (pc + len) (ls.set i (some (.inl z))) r S cu su
    | _ => none
  | .istore_n i => match st with
    | .inl z :: r => mm_nx (pc + len) (ls.set i.val (some (.inl z))) r S cu su
    | _ => none
  | .astore_n i => match st with
    | .inr (some a) :: r => mm_nx (pc + len) (ls.set i.val (some (.inr (some a)))) r S cu su
    | _ => none
  | .iinc i c => match mm_ld ls i with
    | some (.inl z) => mm_nx (pc + len) (ls.set i (some (.inl (mm_w (z + c))))) st S cu su
    | _ => none
  | .iadd => match st with
    | .inl y :: .inl x :: r => mm_nx (pc + len) ls (.inl (mm_w (x + y)) :: r) S cu su
    | _ => none
  | .isub => match st with
    | .inl y :: .inl x :: r => mm_nx (pc + len) ls (.inl (mm_w (x - y)) :: r) S cu su
    | _ => none
  | .imul => match st with
    | .inl y :: .inl x :: r => mm_nx (pc + len) ls (.inl (mm_w (x * y)) :: r) S cu su
    | _ => none
  | .idiv => match st with
    | .inl y :: .inl x :: r => if 0 < y then mm_nx (pc + len) ls (.inl (x.tdiv y) :: r) S cu su else none
    | _ => none
  | .irem => match st with
    | .inl y :: .inl x :: r => if 0 < y then mm_nx (pc + len) ls (.inl (x.tmod y) :: r) S cu su else none
    | _ => none
  | .iand => match st with
    | .inl y :: .inl x :: r => mm_nx (pc + len) ls (.inl (Int32.ofInt x &&& Int32.ofInt y).toInt :: r) S cu su
    | _ => none
  | .ishr => match st with
    | .inl y :: .inl x :: r => mm_nx (pc + len) ls (.inl (Int32.ofInt x >>> (Int32.ofInt y &&& 31)).toInt :: r) S cu su
    | _ => none
  | .ldc i => match mm_ck (mm_own I) i with
    | some z => mm_nx (pc + len) ls (.inl z :: st) S cu su
    | none => none
  | .i2c => match st with
    | .inl x :: r => mm_nx (pc + len) ls (.inl (x % 65536) :: r) S cu su
    | _ => none
  | .dup => match st with
    | v :: r => mm_nx (pc + len) ls (v :: v :: r) S cu su
    | _ => none
  | .dup2 => match st with
    | v :: u :: r => mm_nx (pc + len) ls (v :: u :: v :: u :: r) S cu su
    | _ => none
  | .pop => match st with
    | _ :: r => mm_nx (pc + len) ls r S cu su
    | _ => none
  | .ifCond c _ => match st with
    | .inl x :: r => mm_nx (mm_br c x 0 tgt (pc + len)) ls r S cu su
    | _ => none
  | .if_icmp c _ => match st with
    | .inl y :: .inl x :: r => mm_nx (mm_br c x y tgt (pc + len)) ls r S cu su
    | _ => none
  | .goto _ => mm_nx tgt ls st S cu su
  | .getfield i => match st with
    | .inr (some a) :: r => match mm_ff (Ts.2.1.getD (mm_own I) []) i with
      | some (ci, k, kd, _, _) => bif mm_isc S ci a then (if kd = 2 then (match S.2.2 a k with
          | some x => mm_nx (pc + len) ls (.inr (some x) :: r) S cu su
          | none => none) else mm_nx (pc + len) ls (.inl (S.2.1 a k) :: r) S cu su) else none
      | none => none
    | _ => none
  | .putfield i => match st with
    | .inl z :: .inr (some a) :: r => match mm_ff (Ts.2.1.getD (mm_own I) []) i with
      | some (ci, k, kd, fin, _) => bif (mm_isc S ci a && (!fin || (mm_ctor I && mm_own I == ci))) then
          (if kd = 2 then none else if kd = 0 ∨ z = 0 ∨ z = 1 then mm_nx (pc + len) ls r (S.1, mm_up S.2.1 a k z, S.2.2) cu su else none) else none
      | none => none
    | .inr (some x) :: .inr (some a) :: r => match mm_ff (Ts.2.1.getD (mm_own I) []) i with
      | some (ci, k, kd, fin, _) => bif (mm_isc S ci a && (!fin || (mm_ctor I && mm_own I == ci))) then
          (if kd = 2 then mm_nx (pc + len) ls r (S.1, S.2.1, mm_upr S.2.2 a k x) cu su else none) else none
      | none => none
    | _ => none
  | .arraylength => match st with
    | .inr (some a) :: r => match S.1[a]? with
      | some (kd, n) => bif Nat.ble 10 kd then mm_nx (pc + len) ls (.inl n :: r) S cu su else none
      | none => none
    | .inr none :: r => mm_nx (pc + len) ls (.inl X.1 :: r) S cu su
    | _ => none
  | .iaload => match st with
    | .inl i :: .inr (some a) :: r => if mm_el S 10 a i = true then mm_nx (pc + len) ls (.inl (S.2.1 a i.toNat) :: r) S cu su else none
    | .inl i :: .inr none :: r => if 0 ≤ i ∧ i < X.1 then mm_nx (pc + len) ls (.inl (X.2 i.toNat) :: r) S cu su else none
    | _ => none
  | .caload => match st with
    | .inl i :: .inr (some a) :: r => if mm_el S 12 a i = true then mm_nx (pc + len) ls (.inl (S.2.1 a i.toNat) :: r) S cu su else none
    | _ => none
  | .aaload => match st with
    | .inl i :: .inr (some a) :: r => if mm_el S 13 a i = true then (match S.2.2 a i.toNat with
        | some x => mm_nx (pc + len) ls (.inr (some x) :: r) S cu su
        | none => none) else none
    | _ => none
  | .iastore => match st with
    | .inl z :: .inl i :: .inr (some a) :: r => if mm_el S 10 a i = true then mm_nx (pc + len) ls r (S.1, mm_up S.2.1 a i.toNat z, S.2.2) cu su else none
    | _ => none
  | .castore => match st with
    | .inl z :: .inl i :: .inr (some a) :: r => if mm_el S 12 a i = true ∧ 0 ≤ z ∧ z < 65536 then mm_nx (pc + len) ls r (S.1, mm_up S.2.1 a i.toNat z, S.2.2) cu su else none
    | _ => none
  | .aastore => match st with
    | .inr (some x) :: .inl i :: .inr (some a) :: r => if mm_el S 13 a i = true ∧ mm_isc S 4 x = true then mm_nx (pc + len) ls r (S.1, S.2.1, mm_upr S.2.2 a i.toNat x) cu su else none
    | _ => none
  | .new i => match mm_fn (Ts.2.2.2.getD (mm_own I) []) i with
    | some (ci, _) => match classes[ci]? with
      | some q => if cu + 1 ≤ mm_mc I ∧ su + q.2.2 ≤ mm_ms I then mm_nx (pc + len) ls (.inr (some S.1.length) :: st) (S.1 ++ [(ci, q.2.2)], S.2.1, S.2.2) (cu + 1) (su + q.2.2) else none
      | none => none
    | none => none
  | .newarray t => match st with
    | .inl n :: r => if 0 ≤ n ∧ n ≤ 10000 ∧ cu + 1 ≤ mm_mc I ∧ su + n.toNat ≤ mm_ms I then (match t with
        | .int => mm_nx (pc + len) ls (.inr (some S.1.length) :: r) (S.1 ++ [(10, n.toNat)], S.2.1, S.2.2) (cu + 1) (su + n.toNat)
        | .char => mm_nx (pc + len) ls (.inr (some S.1.length) :: r) (S.1 ++ [(12, n.toNat)], S.2.1, S.2.2) (cu + 1) (su + n.toNat)
        | _ => none) else none
    | _ => none
  | .anewarray i => match st with
    | .inl n :: r => match mm_fn (Ts.2.2.2.getD (mm_own I) []) i with
      | some (ci, _) => if ci = 4 ∧ 0 ≤ n ∧ n ≤ 10000 ∧ cu + 1 ≤ mm_mc I ∧ su + n.toNat ≤ mm_ms I then
          mm_nx (pc + len) ls (.inr (some S.1.length) :: r) (S.1 ++ [(13, n.toNat)], S.2.1, S.2.2) (cu + 1) (su + n.toNat) else none
      | none => none
    | _ => none
  | .invokevirtual i => match mm_fm (Ts.2.2.1.getD (mm_own I) []) i with
    | some (kd, m, _) => match Ts.1[m]? with
      | some e => match st.drop (mm_nargs e.1 - 1) with
        | .inr (some a) :: r => bif (kd == 0 && mm_isc S (mm_own e.1) a && Nat.ble r.length 8 && Nat.ble (cu + mm_mc e.1) (mm_mc I) && Nat.ble (su + mm_ms e.1) (mm_ms I)) then
            some (.inr (.inl (m, .inr (some a) :: (st.take (mm_nargs e.1 - 1)).reverse, (pc + len, ls, r, S, cu + mm_mc e.1, su + mm_ms e.1)))) else none
        | _ => none
      | none => none
    | none => none
  | .invokespecial i => match mm_fm (Ts.2.2.1.getD (mm_own I) []) i with
    | some (kd, m, _) => match st with
      | .inr (some a) :: r => bif kd == 4 then (bif Nat.ble r.length 8 then mm_nx (pc + len) ls r S cu su else none) else match Ts.1[m]? with
        | some e => bif (kd == 1 && Nat.ble r.length 8 && mm_nargs e.1 == 1 && Nat.ble (cu + mm_mc e.1) (mm_mc I) && Nat.ble (su + mm_ms e.1) (mm_ms I)) then
            some (.inr (.inl (m, [.inr (some a)], (pc + len, ls, r, S, cu + mm_mc e.1, su + mm_ms e.1)))) else none
        | none => none
      | _ => none
    | none => none
  | .invokestatic i => match mm_fm (Ts.2.2.1.getD (mm_own I) []) i with
    | some (kd, m, _) => bif kd == 5 then (match st with
        | .inl n :: .inl dp :: .inr (some d) :: .inl sp :: .inr (some a) :: r =>
          match S.1[a]?, S.1[d]? with
          | some (k0, n0), some (k1, n1) => if k0 = 10 ∧ k1 = 10 ∧ r.length ≤ 8 ∧ 0 ≤ sp ∧ 0 ≤ dp ∧ 0 ≤ n ∧ sp.toNat + n.toNat ≤ n0 ∧ dp.toNat + n.toNat ≤ n1 then
              mm_nx (pc + len) ls r (S.1, mm_cpy S.2.1 a sp.toNat d dp.toNat n.toNat, S.2.2) cu su else none
          | _, _ => none
        | _ => none) else match Ts.1[m]? with
      | some e => bif ((kd == 2 || kd == 3) && Nat.ble (mm_nargs e.1) st.length && Nat.ble (st.drop (mm_nargs e.1)).length 8 && Nat.ble (cu + mm_mc e.1) (mm_mc I) && Nat.ble (su + mm_ms e.1) (mm_ms I)) then
            some (.inr (.inl (m, (st.take (mm_nargs e.1)).reverse, (pc + len, ls, st.drop (mm_nargs e.1), S, cu + mm_mc e.1, su + mm_ms e.1)))) else none
      | none => none
    | none => none
  | .ireturn => match st with
    | [.inl z] => if cu = mm_mc I ∧ (mm_bool I = false ∨ z = 0 ∨ z = 1) then some (.inr (.inr (some (.inl z), S))) else none
    | _ => none
  | .return_ => match st with
    | [] => if cu = mm_mc I then some (.inr (.inr (none, S))) else none
    | _ => none
  | .tableswitch d lo hi os => match st with
    | .inl x :: r => if x < lo ∨ hi < x then mm_nx ((pc : Int) + d).toNat ls r S cu su else (match os[(x - lo).toNat]? with
        | some o => mm_nx ((pc : Int) + o).toNat ls r S cu su
        | none => none)
    | _ => none
  | .lookupswitch d ps => match st with
    | .inl x :: r => mm_nx ((pc : Int) + Op.lookupswitch.offset ps.toList d x).toNat ls r S cu su
    | _ => none
  | _ => none
def mm_entry (I : mm_I) (as : List mm_V) : mm_L := as.map some ++ List.replicate (mm_maxL I - as.length) none
def mm_run (Ts : mm_T) (X : Nat × (Nat → Int)) : Nat → Nat → mm_C → Option (Option mm_V × mm_S)
  | 0, _, _ => none
  | n + 1, m, c => match Ts.1[m]? with
    | none => none
    | some e => match mm_at e.2 c.1 with
      | none => none
      | some (ins, len, tgt) => match mm_step Ts X e.1 ins len tgt c with
        | none => none
        | some (.inl c') => mm_run Ts X n m c'
        | some (.inr (.inr r)) => some r
        | some (.inr (.inl (m', as, pc, ls, st, S, cu, su))) => match Ts.1[m']? with
          | none => none
          | some e' => match mm_run Ts X n m' (0, mm_entry e'.1 as, [], S, 0, 0) with
            | none => none
            | some (v, S') => mm_run Ts X n m (pc, ls, v.toList ++ st, S', cu, su)
