-- THE SIMULATION, second part
/-- instructions that only go on -/
def mm_plain : Instr → Bool
  | .invokevirtual _ => false
  | .invokespecial _ => false
  | .invokestatic _ => false
  | .ireturn => false
  | .return_ => false
  | _ => true
set_option maxHeartbeats 4000000 in
theorem mm_plain_next {Ts : mm_T} {X : Nat × (Nat → Int)} {I : mm_I} {ins : Instr} {len tgt : Nat} {C : mm_C} {o : (Nat × List mm_V × mm_C) ⊕ (Option mm_V × mm_S)} (hp : mm_plain ins = true) (h : mm_step Ts X I ins len tgt C = some (.inr o)) : False := by
  obtain ⟨pc, L, st, S, cu, su⟩ := C
  cases ins <;> first
    | (cases hp; done)
    | (cases (show (none : Option mm_O) = some (.inr o) from h); done)
    | (simp only [mm_step, mm_nx, Bool.cond_eq_ite] at h; (repeat' split at h) <;> cases h)
section MMZ
variable {X : Nat × (Nat → Int)}
set_option maxHeartbeats 4000000 in
theorem mm_go {p : Program} {l : Launch} {e : Env} {R : Room} {s : State} {m : MethodId} {args : Array Value} {below : List Frame} {meth : Method} {c : Code} {H : Heap} {locs : List Loc} {Q : State → Prop} {I : mm_I} {D : va_G} {cA : Nat → ClassId} {base b : Nat} {H00 : Heap} {pc len tgt : Nat} {L : mm_L} {st : List mm_V} {S : mm_S} {cu su : Nat} {ls : Array Slot} {C' : mm_C} {ex : List (Nat × Value)} {tl : List Value} {ins : Instr} (hp : mm_plain ins = true) (hx : mm_Cx X I p R s m args meth c D cA base b H00) (hG : mm_G I s D cA base b H00 ex L st S cu su ls H locs) (hd : decode (mm_bytes I) pc = .ok (ins, len)) (hf : mm_fine I (pc, ins, len, tgt) = true) (hs : mm_step mt X I ins len tgt (pc, L, st, S, cu, su) = some (.inl C')) (kk : mm_kk p l e R s m args below meth c Q I D cA base b H00 (mm_exi ins ex) tl C') : W p l e R s m args below meth c H locs cu su Q (F0 m pc ls (st.map (mm_phi base b) ++ tl)) := by
  cases ins <;> first
    | (cases hp; done)
    | (cases (show (none : Option mm_O) = some (.inl C') from hs); done)
    | exact mm_s_iconst hx hG hd hf hs kk
    | exact mm_s_bipush hx hG hd hf hs kk
    | exact mm_s_sipush hx hG hd hf hs kk
    | exact mm_s_iload hx hG hd hf hs kk
    | exact mm_s_iload_n hx hG hd hf hs kk
    | exact mm_s_aload_n hx hG hd hf hs kk
    | exact mm_s_istore hx hG hd hf hs kk
    | exact mm_s_istore_n hx hG hd hf hs kk
    | exact mm_s_astore_n hx hG hd hf hs kk
    | exact mm_s_iinc hx hG hd hf hs kk
    | exact mm_s_iadd hx hG hd hf hs kk
    | exact mm_s_isub hx hG hd hf hs kk
    | exact mm_s_imul hx hG hd hf hs kk
    | exact mm_s_idiv hx hG hd hf hs kk
    | exact mm_s_irem hx hG hd hf hs kk
    | exact mm_s_iand hx hG hd hf hs kk
    | exact mm_s_i2c hx hG hd hf hs kk
    | exact mm_s_ldc hx hG hd hf hs kk
    | exact mm_s_ishr hx hG hd hf hs kk
    | exact mm_s_dup hx hG hd hf hs kk
    | exact mm_s_dup2 hx hG hd hf hs kk
    | exact mm_s_pop hx hG hd hf hs kk
    | exact mm_s_ifCond hx hG hd hf hs kk
    | exact mm_s_if_icmp hx hG hd hf hs kk
    | exact mm_s_goto hx hG hd hf hs kk
    | exact mm_s_getfield hx hG hd hf hs kk
    | exact mm_s_putfield hx hG hd hf hs kk
    | exact mm_s_arraylength hx hG hd hf hs kk
    | exact mm_s_iaload hx hG hd hf hs kk
    | exact mm_s_caload hx hG hd hf hs kk
    | exact mm_s_aaload hx hG hd hf hs kk
    | exact mm_s_iastore hx hG hd hf hs kk
    | exact mm_s_castore hx hG hd hf hs kk
    | exact mm_s_aastore hx hG hd hf hs kk
    | exact mm_s_new hx hG hd hf hs kk
    | exact mm_s_newarray hx hG hd hf hs kk
    | exact mm_s_anewarray hx hG hd hf hs kk
    | exact mm_s_tableswitch hx hG hd hf hs kk
    | exact mm_s_lookupswitch hx hG hd hf hs kk
/-- every value that a run gives back is an int -/
theorem mm_run_int (Ts : mm_T) : ∀ (n k : Nat) (C : mm_C) (v : Option mm_V) (S1 : mm_S), mm_run Ts X n k C = some (v, S1) → v = none ∨ ∃ z, v = some (.inl z) := by
  intro n
  induction n with
  | zero => intro k C v S1 h; cases h
  | succ n ih =>
    intro k C v S1 h
    unfold mm_run at h
    cases hk : Ts.1[k]? with
    | none => rw [hk] at h; cases h
    | some e0 =>
      rw [hk] at h
      dsimp only at h
      cases ha : mm_at e0.2 C.1 with
      | none => rw [ha] at h; cases h
      | some q =>
        obtain ⟨ins, len, tgt⟩ := q
        rw [ha] at h
        dsimp only at h
        cases hs : mm_step Ts X e0.1 ins len tgt C with
        | none => rw [hs] at h; cases h
        | some o =>
          rw [hs] at h
          rcases o with C' | ⟨k', as, pc, L, st, S, cu, su⟩ | ⟨v', S'⟩
          · exact ih k C' v S1 h
          · dsimp only at h
            cases hk' : Ts.1[k']? with
            | none => rw [hk'] at h; cases h
            | some e1 =>
              rw [hk'] at h
              dsimp only at h
              cases hr : mm_run Ts X n k' (0, mm_entry e1.1 as, [], S, 0, 0) with
              | none => rw [hr] at h; cases h
              | some q =>
                rw [hr] at h
                exact ih k _ v S1 h
          · dsimp only at h
            cases h
            cases hpl : mm_plain ins with
            | true => exact absurd hs (fun z => mm_plain_next hpl z)
            | false =>
              obtain ⟨pc, L, st, S, cu, su⟩ := C
              cases ins <;> first
                | (cases hpl; done)
                | (simp only [mm_step, mm_nx, Bool.cond_eq_ite] at hs; (repeat' split at hs) <;> first | (cases hs; done) | (cases hs; exact Or.inr ⟨_, rfl⟩) | (cases hs; exact Or.inl rfl))
end MMZ
