-- THE START: all objects stand, and hold nothing; two tables, two references (laid by gen94.py); THE LAW ends with 1
def stU : List (Nat × Nat × Nat) := [(1, 2, 2), (1, 3, 3), (1, 4, 4), (1, 5, 5), (1, 6, 6), (1, 7, 7), (1, 8, 8), (0, 0, 1), (9, 2, 10), (9, 3, 11), (9, 4, 12), (9, 5, 13), (9, 6, 14), (9, 7, 15), (9, 8, 16), (0, 1, 9), (17, 2, 18), (17, 3, 19), (17, 4, 20), (17, 5, 21), (17, 6, 22), (17, 7, 23), (17, 8, 24), (0, 2, 17), (25, 0, 26), (27, 2, 28), (27, 3, 29), (27, 4, 30), (27, 5, 31), (27, 6, 32), (27, 7, 33), (27, 8, 34), (26, 0, 27), (35, 2, 36), (35, 3, 37), (35, 4, 38), (35, 5, 39), (35, 6, 40), (35, 7, 41), (35, 8, 42), (26, 1, 35), (43, 2, 44), (43, 3, 45), (43, 4, 46), (43, 5, 47), (43, 6, 48), (43, 7, 49), (43, 8, 50), (26, 2, 43), (51, 2, 52), (51, 3, 53), (51, 4, 54), (51, 5, 55), (51, 6, 56), (51, 7, 57), (51, 8, 58), (26, 3, 51), (0, 4, 25), (59, 0, 60), (0, 5, 59), (61, 0, 62), (61, 5, 63), (61, 6, 64), (61, 7, 65), (0, 6, 61), (66, 0, 67), (66, 1, 68), (0, 7, 66)]
def stF : mm_Pt := stU.foldl (fun f q => mm_upr f q.1 q.2.1 q.2.2) (fun _ _ => none)
theorem stF_out : ∀ (U : List (Nat × Nat × Nat)) (f : mm_Pt) (a k : Nat), (∀ q ∈ U, ¬ (q.1 = a ∧ q.2.1 = k)) → U.foldl (fun f q => mm_upr f q.1 q.2.1 q.2.2) f a k = f a k := by
  intro U
  induction U with
  | nil => intro f a k _; rfl
  | cons q U ih =>
    intro f a k h
    rw [List.foldl_cons, ih _ a k (fun p hp => h p (List.mem_cons_of_mem _ hp))]
    have hq := h q List.mem_cons_self
    unfold mm_upr
    by_cases e : a = q.1
    · rw [if_pos e, if_neg (fun z => hq ⟨e.symm, z.symm⟩)]
    · rw [if_neg e]
theorem stF_in : ∀ a, a < 69 → ∀ k, k < 20 → stF a k = mm_mr [27, 35, 43, 51] a k := by decide +kernel
theorem stU_in : ∀ q ∈ stU, q.1 < 69 ∧ q.2.1 < 20 := by decide +kernel
theorem mm_RF_len : ∀ a, a < 69 → (mm_RF.getD a []).length ≤ 20 := by decide +kernel
theorem stF_eq : stF = mm_mr [27, 35, 43, 51] := by
  funext a k
  by_cases h1 : a < 69 ∧ k < 20
  · exact stF_in a h1.1 k h1.2
  · have e1 : stF a k = none := by
      unfold stF
      rw [stF_out stU _ a k (fun q hq z => h1 (by have := stU_in q hq; omega))]
    rw [e1]
    unfold mm_mr
    by_cases e : a = 26
    · subst e
      rw [show ((26 : Nat) == 26) = true from rfl, cond_true, List.getElem?_eq_none]
      show 4 ≤ k
      omega
    · rw [show (a == 26) = false by simp [e], cond_false]
      by_cases ha : a < 69
      · have := mm_RF_len a ha
        rw [List.getD_eq_getElem?_getD, List.getElem?_eq_none (by omega)]
        rfl
      · have : mm_RF.getD a [] = [] := by
          rw [List.getD_eq_getElem?_getD, List.getElem?_eq_none (by
            show mm_RF.length ≤ a
            have : mm_RF.length = 69 := by decide +kernel
            omega)]
          rfl
        rw [this]
        rfl
def stZ : mm_M := fun _ _ => 0
def stM : mm_M := mm_up (mm_up (mm_up stZ 59 6 (-1)) 59 7 (-1)) 61 3 (-9)
/-- the block of nothing -/
def stB : Int → Int := fun z => if 198 ≤ z then -1 else 0
theorem stB_lo {z : Int} (h : z < 198) : stB z = 0 := if_neg (by omega)
theorem stB_ce {x : Int} (h : 0 ≤ x) : kCe stB x = -1 := if_pos (by omega)
theorem stB_inv : bInv stB := bInv_zero (stB_lo (by decide)) (stB_lo (by decide)) (stB_lo (by decide)) (fun x h _ => stB_ce h)
theorem st_rel : cRel stM [27, 35, 43, 51] (fun _ => stB) 0 := by
  have z : ∀ a k, a ≠ 59 → a ≠ 61 → stM a k = 0 := by
    intro a k e1 e2
    unfold stM
    rw [mm_up_ne e2, mm_up_ne e1, mm_up_ne e1]
    rfl
  have b : ∀ w : Int, w < 198 → stB w = 0 := fun w hw => stB_lo hw
  have cols : ∀ t, kCols stB t = 0 := by
    intro t
    unfold kCols
    rw [b 1 (by decide)]
    rfl
  have zz : ∀ a k, a < 59 → stM a k = 0 := fun a k ha => z a k (by omega) (by omega)
  have hS : cS stM 1 stB := by
    refine ⟨stB_inv, ⟨?_, ?_, ?_, ?_, ?_, ?_⟩, ⟨fun i hi => ?_, fun i hi => ?_⟩, ⟨fun t ht => ?_, fun r hr => ?_⟩, fun t ht => ?_⟩
    · rw [zz 1 _ (by decide), b 0 (by decide)]
    · rw [zz 1 _ (by decide), b 1 (by decide)]
    · rw [zz 1 _ (by decide), b 5 (by decide)]
    · rw [zz 1 _ (by decide), b 2 (by decide)]
    · rw [zz 1 _ (by decide), b 3 (by decide)]
    · rw [zz 1 _ (by decide), b 4 (by decide)]
    · rw [b 1 (by decide)] at hi
      omega
    · rw [b 5 (by decide)] at hi
      omega
    · rw [zz _ _ (by omega), cols]
    · rw [b 1 (by decide)] at hr
      omega
    · have e : cRc stM 1 t = 0 := zz 2 _ (by decide)
      refine ⟨by rw [e]; decide, fun _ => e, fun j hj => by rw [e] at hj; omega, fun i j _ hj => by rw [e] at hj; omega, fun k hk hc => ?_⟩
      rw [stB_ce (by omega)] at hc
      omega
  exact ⟨⟨hOk_mk ⟨Or.inl rfl, Or.inr (Or.inl rfl), Or.inr (Or.inr (Or.inl rfl)), Or.inr (Or.inr (Or.inr rfl))⟩ (by decide), by decide, zz 25 1 (by decide), fun i hi => absurd hi (by omega)⟩, ⟨hS, bFk_zero (b 1 (by decide))⟩, Or.inl (zz 0 3 (by decide)), fun y => absurd (zz 0 3 (by decide)) y⟩
/-- a block without rows -/
def lE (B : Int → Int) : Prop := ∀ x, 0 ≤ x → x < 600 → kCe B x = -1
section SL
variable {X : Nat × (Nat → Int)} {mi : mm_M} {h : mm_H} {Q : ml_A → mm_S → Prop} {B : Int → Int}
theorem cnt_none (n : Nat) : cnt n (fun _ => false) = 0 := by
  unfold cnt
  simp
theorem lE.rows (hE : lE B) {t : Int} (ht : 0 ≤ t ∧ t < 6) : kRows B t = 0 := by
  unfold kRows
  rw [cnt_co (q := fun _ => false) (fun k hk => decide_eq_false (by rw [hE _ (by omega) (by omega)]; decide)), cnt_none]
theorem lE.all (hE : lE B) (hI : bInv B) : kAll B = 0 := by
  rw [kAll_cnt hI, cnt_co (q := fun _ => false) (fun k hk => decide_eq_false (by rw [hE _ (by omega) (by omega)]; decide)), cnt_none]
theorem kCols_none (h1 : B 1 = 0) (t : Int) : kCols B t = 0 := by
  unfold kCols
  rw [h1]
  rfl
theorem kAddR_ok {c p rule q d : Int} (hc : 0 ≤ c ∧ c < B 0) (hp : 0 ≤ p ∧ p < B 0) (hr : 0 ≤ rule ∧ rule ≤ 4) (hd : -1 ≤ d ∧ d ≤ 99) (h1 : B 1 ≠ 12) (h2 : kCols B c ≠ 2) (h3 : kRows B c = 0) : kAddR B c p rule q d = (B 1, kAddRB B c p rule q d) := by
  unfold kAddR
  rw [if_neg (fun z : kBadR B c p => z ⟨hc, hp⟩), if_neg (fun z : kBadN rule d => z ⟨hr, hd⟩), if_neg (fun z => z.elim h1 h2), if_neg (by omega)]
theorem kAddT_ok (h6 : B 0 ≠ 6) : kAddT B = (B 0, bUp B 0 (B 0 + 1)) := if_neg h6
set_option maxHeartbeats 8000000 in
theorem law_setup2 {Bs : Nat → Int → Int} {n : Int} (hR : cRel mi h Bs n) (h03 : mi 0 3 = 1) (b0 : Bs 0 0 = 2) (b1 : Bs 0 1 = 0) (b2 : Bs 0 2 = 0) (b3 : Bs 0 3 = 0) (hE : lE (Bs 0)) (hq : ∀ m2 h2, Q (.inl (.inl 1)) (mm_ms0 m2 h2)) : lwp X 2 ((50, [some (.inr none), some (.inr (some 0)), none, none, none, none, none, none, none, none, none, none, none, none], [], mm_ms0 mi h, 69, 5899), [], []) Q := by
  have u0 := lup_in (v := lcell X 90) (n := 2) (by decide)
  have u1 := lup_in (v := lcell X 91) (n := 2) (by decide)
  have u2 := lup_in (v := lcell X 92) (n := 2) (by decide)
  have u3 := lup_in (v := lcell X 93) (n := 5) (by decide)
  have u4 := lup_in (v := lcell X 94) (n := 12) (by decide)
  have hI := hR.2.1.1.1
  have hG : lG (Bs 0) := by
    refine ⟨fun e he => ?_, ?_, by omega⟩
    · unfold gR at he
      rw [b1] at he
      exact absurd he (Nat.not_lt_zero _)
    · unfold lCnt
      rw [hE.all hI, b2, b3]
      rfl
  refine zlw_50 ?_
  rw [sp154 (by decide), mm_psh_i]
  refine zlw_56 ?_
  rw [sp155 (by decide), mm_psh_i]
  refine zlw_60 ?_
  rw [sp154 (by decide), mm_psh_i]
  refine zlw_69 ?_
  rw [sp155 (by decide), mm_psh_i]
  refine zlw_73 ?_
  generalize lup (lcell X 90) 2 = c at u0 ⊢
  generalize lup (lcell X 91) 2 = p at u1 ⊢
  have hc0 : kCols (Bs 0) c = 0 := kCols_none b1 c
  have hr0 : kRows (Bs 0) c = 0 := hE.rows (by omega)
  refine sp61 hR ?_
  rw [kAddR_ok (by omega) (by omega) (by decide) (by decide) (by omega) (by omega) hr0]
  have hG3 : lG (kAddRB (Bs 0) c p 2 0 (-1)) := lG_ref hI hG (by omega) (by omega) (by decide) (by decide) (by omega) (by omega) (by omega)
  have d0 : kAddRB (Bs 0) c p 2 0 (-1) 0 = 2 := by rw [kAddRB_ne (by decide) (by omega)]; exact b0
  have d1 : kAddRB (Bs 0) c p 2 0 (-1) 1 = 1 := by rw [(kAddRB_at (by omega)).1, b1]; rfl
  have hE3 : lE (kAddRB (Bs 0) c p 2 0 (-1)) := fun x hx hx2 => by
    show kAddRB (Bs 0) c p 2 0 (-1) (198 + x) = -1
    rw [kAddRB_ne (by omega) (by omega)]
    exact hE x hx hx2
  have hc3 : kCols (kAddRB (Bs 0) c p 2 0 (-1)) (1 - c) = 0 := by
    rw [kAddRB_cols (by omega), kCols_none b1, if_neg (by omega)]
    rfl
  generalize kAddRB (Bs 0) c p 2 0 (-1) = D at hG3 d0 d1 hE3 hc3
  rw [b1]
  refine ⟨fun z => absurd z (by dsimp only; decide), fun _ m2 h2 hR2 _ t2 => ?_⟩
  dsimp only at hR2 ⊢
  have hI3 : bInv D := hR2.2.1.1.1
  rw [mm_psh_i]
  refine zlw_79 (fun _ => ?_) (fun z => absurd rfl z)
  refine zlw_82 ?_
  rw [mm_wi (z := 1 - c) (by omega) (by omega), sp154 (by decide), mm_psh_i]
  refine zlw_92 ?_
  rw [sp155 (by decide), mm_psh_i]
  refine zlw_96 ?_
  rw [sp154 (by decide), mm_psh_i]
  refine zlw_102 ?_
  rw [sp155 (by decide), mm_psh_i]
  refine zlw_106 ?_
  rw [sp154 (by decide), mm_psh_i]
  refine zlw_113 ?_
  rw [sp155 (by decide), mm_psh_i]
  refine zlw_118 ?_
  generalize lup (lcell X 92) 2 = p2 at u2 ⊢
  generalize lup (lcell X 93) 5 = rule at u3 ⊢
  generalize lup (lcell X 94) 12 = sd at u4 ⊢
  have hr3 : kRows D (1 - c) = 0 := hE3.rows (by omega)
  refine sp61 hR2 ?_
  show cAct m2 h2 _ _ _ (kAddR D (1 - c) p2 rule 0 sd)
  rw [kAddR_ok (by omega) (by omega) (by omega) (by omega) (by omega) (by omega) hr3]
  have hG4 : lG (kAddRB D (1 - c) p2 rule 0 sd) := lG_ref hI3 hG3 (by omega) (by omega) (by omega) (by omega) (by omega) (by omega) (by omega)
  have hE4 : lE (kAddRB D (1 - c) p2 rule 0 sd) := fun x hx hx2 => by
    show kAddRB D (1 - c) p2 rule 0 sd (198 + x) = -1
    rw [kAddRB_ne (by omega) (by omega)]
    exact hE3 x hx hx2
  generalize kAddRB D (1 - c) p2 rule 0 sd = D4 at hG4 hE4
  rw [d1]
  refine ⟨fun z => absurd z (by dsimp only; decide), fun _ m3 h3 hR3 _ t3 => ?_⟩
  dsimp only at hR3 ⊢
  rw [mm_psh_i]
  refine zlw_121 (fun _ => ?_) (fun z => absurd rfl z)
  refine zlw_125 ?_
  refine sp70 hR3 (fun m4 hR4 _ t4 => ?_)
  have a0 : kAll (aTk (aTk Bs n D) (kAccN n) D4 0) = 0 := hE4.all hR3.2.1.1.1
  rw [a0, mm_psh_i]
  refine zlw_129 (fun _ => ?_) (fun z => absurd rfl z)
  refine zlw_132 (zlw_137 ?_)
  exact law_loop hq 44 0 m4 h3 _ _ (by decide) (by decide) ⟨hR4, t4, hG4, hG4⟩ none none none none none
set_option maxHeartbeats 8000000 in
theorem law_setup (hq : ∀ m2 h2, Q (.inl (.inl 1)) (mm_ms0 m2 h2)) : lwp X 2 ((8, [some (.inr none), some (.inr (some 0)), none, none, none, none, none, none, none, none, none, none, none, none], [], mm_ms0 stM [27, 35, 43, 51], 69, 5899), [], []) Q := by
  have u0 := lup_in (v := lcell X 90) (n := 2) (by decide)
  have u1 := lup_in (v := lcell X 91) (n := 2) (by decide)
  have u2 := lup_in (v := lcell X 92) (n := 2) (by decide)
  have u3 := lup_in (v := lcell X 93) (n := 5) (by decide)
  have u4 := lup_in (v := lcell X 94) (n := 12) (by decide)
  refine zlw_8 ?_
  refine sp69 st_rel (fun _ => ?_) (fun z => absurd z (by decide))
  rw [mm_psh_i]
  refine zlw_12 (fun _ => ?_) (fun z => absurd rfl z)
  refine zlw_17 ?_
  refine sp71 st_rel (fun _ => ?_) (fun z => absurd (show stM 0 3 = 0 from rfl) z)
  rw [mm_psh_i]
  refine zlw_21 (fun _ => ?_) (fun z => absurd rfl z)
  refine zlw_26 ?_
  refine sp70 st_rel (fun m1 hR1 _ t1 => ?_)
  have a0 : kAll stB = 0 := lE.all (fun x hx _ => stB_ce hx) stB_inv
  rw [a0, mm_psh_i]
  refine zlw_30 (fun _ => ?_) (fun z => absurd rfl z)
  refine zlw_33 ?_
  refine sp60 hR1 ?_
  show cAct m1 [27, 35, 43, 51] _ _ 0 (kAddT stB)
  rw [kAddT_ok (by rw [stB_lo (by decide)]; decide), show stB 0 = 0 from stB_lo (by decide)]
  refine ⟨fun z => absurd z (by dsimp only; decide), fun _ m2 h2 hR2 _ t2 => ?_⟩
  dsimp only at hR2 ⊢
  rw [mm_psh_i]
  refine zlw_37 (fun _ => ?_) (fun z => absurd rfl z)
  refine zlw_40 ?_
  refine sp60 hR2 ?_
  show cAct m2 h2 _ _ _ (kAddT (bUp stB 0 (0 + 1)))
  rw [kAddT_ok (by rw [bUp_at]; decide), show bUp stB 0 (0 + 1) 0 = 1 from bUp_at]
  refine ⟨fun z => absurd z (by dsimp only; decide), fun _ m3 h3 hR3 _ t3 => ?_⟩
  dsimp only at hR3 ⊢
  have s3 : m3 0 3 = 1 := by rw [t3, t2, t1]
  have hI3 : bInv (bUp (bUp stB 0 (0 + 1)) 0 (1 + 1)) := hR3.2.1.1.1
  have b0 : bUp (bUp stB 0 (0 + 1)) 0 (1 + 1) 0 = 2 := bUp_at
  have b1 : bUp (bUp stB 0 (0 + 1)) 0 (1 + 1) 1 = 0 := by rw [bUp_ne (by decide), bUp_ne (by decide), stB_lo (by decide)]
  have b2 : bUp (bUp stB 0 (0 + 1)) 0 (1 + 1) 2 = 0 := by rw [bUp_ne (by decide), bUp_ne (by decide), stB_lo (by decide)]
  have b3 : bUp (bUp stB 0 (0 + 1)) 0 (1 + 1) 3 = 0 := by rw [bUp_ne (by decide), bUp_ne (by decide), stB_lo (by decide)]
  have hE3 : lE (bUp (bUp stB 0 (0 + 1)) 0 (1 + 1)) := fun x hx _ => by
    show bUp (bUp stB 0 (0 + 1)) 0 (1 + 1) (198 + x) = -1
    rw [bUp_ne (by omega), bUp_ne (by omega)]
    exact stB_ce hx
  rw [mm_psh_i]
  refine zlw_44 (fun _ => ?_) (fun z => absurd rfl z)
  exact law_setup2 hR3 s3 b0 b1 b2 b3 hE3 hq
set_option maxHeartbeats 4000000 in
theorem law_start (hq : ∀ m2 h2, Q (.inl (.inl 1)) (mm_ms0 m2 h2)) : lwp X 2 ((0, mm_entry mi_L_law [.inr none], [], (([], fun _ _ => 0, fun _ _ => none) : mm_S), 0, 0), [], []) Q := by
  refine lwp_many (F2 := ((4, [some (.inr none), none, none, none, none, none, none, none, none, none, none, none, none, none], [.inr (some 0), .inr (some 0)], (mm_SH.take 1, stZ, fun _ _ => none), 1, 8), [], [])) 2 hl2 rfl ?_
  refine lwp_call (ins := .invokespecial 108) (len := 3) (tgt := 0) (k1 := 59) (as := [.inr (some 0)]) (pc2 := 7) (L2 := [some (.inr none), none, none, none, none, none, none, none, none, none, none, none, none, none]) (st2 := [.inr (some 0)]) (S2 := (mm_SH.take 1, stZ, fun _ _ => none)) (cu2 := 69) (su2 := 5899) hl2 he59 rfl rfl rfl rfl rfl rfl ?_
  refine gSD (fun _ _ => rfl) ?_
  show lwp X 2 ((7, [some (.inr none), none, none, none, none, none, none, none, none, none, none, none, none, none], [.inr (some 0)], (mm_SH.take 69, stM, (mm_upr (mm_upr (mm_upr (mm_upr (mm_upr (mm_upr (mm_upr (mm_upr (mm_upr (mm_upr (mm_upr (mm_upr (mm_upr (mm_upr (mm_upr (mm_upr (mm_upr (mm_upr (mm_upr (mm_upr (mm_upr (mm_upr (mm_upr (mm_upr (mm_upr (mm_upr (mm_upr (mm_upr (mm_upr (mm_upr (mm_upr (mm_upr (mm_upr (mm_upr (mm_upr (mm_upr (mm_upr (mm_upr (mm_upr (mm_upr (mm_upr (mm_upr (mm_upr (mm_upr (mm_upr (mm_upr (mm_upr (mm_upr (mm_upr (mm_upr (mm_upr (mm_upr (mm_upr (mm_upr (mm_upr (mm_upr (mm_upr (mm_upr (mm_upr (mm_upr (mm_upr (mm_upr (mm_upr (mm_upr (mm_upr (mm_upr (mm_upr (mm_upr (fun _ _ => none) 1 2 2) 1 3 3) 1 4 4) 1 5 5) 1 6 6) 1 7 7) 1 8 8) 0 0 1) 9 2 10) 9 3 11) 9 4 12) 9 5 13) 9 6 14) 9 7 15) 9 8 16) 0 1 9) 17 2 18) 17 3 19) 17 4 20) 17 5 21) 17 6 22) 17 7 23) 17 8 24) 0 2 17) 25 0 26) 27 2 28) 27 3 29) 27 4 30) 27 5 31) 27 6 32) 27 7 33) 27 8 34) 26 0 27) 35 2 36) 35 3 37) 35 4 38) 35 5 39) 35 6 40) 35 7 41) 35 8 42) 26 1 35) 43 2 44) 43 3 45) 43 4 46) 43 5 47) 43 6 48) 43 7 49) 43 8 50) 26 2 43) 51 2 52) 51 3 53) 51 4 54) 51 5 55) 51 6 56) 51 7 57) 51 8 58) 26 3 51) 0 4 25) 59 0 60) 0 5 59) 61 0 62) 61 5 63) 61 6 64) 61 7 65) 0 6 61) 66 0 67) 66 1 68) 0 7 66)), 69, 5899), [], []) Q
  refine lwp_many (F2 := ((8, [some (.inr none), some (.inr (some 0)), none, none, none, none, none, none, none, none, none, none, none, none], [], (mm_SH.take 69, stM, (mm_upr (mm_upr (mm_upr (mm_upr (mm_upr (mm_upr (mm_upr (mm_upr (mm_upr (mm_upr (mm_upr (mm_upr (mm_upr (mm_upr (mm_upr (mm_upr (mm_upr (mm_upr (mm_upr (mm_upr (mm_upr (mm_upr (mm_upr (mm_upr (mm_upr (mm_upr (mm_upr (mm_upr (mm_upr (mm_upr (mm_upr (mm_upr (mm_upr (mm_upr (mm_upr (mm_upr (mm_upr (mm_upr (mm_upr (mm_upr (mm_upr (mm_upr (mm_upr (mm_upr (mm_upr (mm_upr (mm_upr (mm_upr (mm_upr (mm_upr (mm_upr (mm_upr (mm_upr (mm_upr (mm_upr (mm_upr (mm_upr (mm_upr (mm_upr (mm_upr (mm_upr (mm_upr (mm_upr (mm_upr (mm_upr (mm_upr (mm_upr (mm_upr (fun _ _ => none) 1 2 2) 1 3 3) 1 4 4) 1 5 5) 1 6 6) 1 7 7) 1 8 8) 0 0 1) 9 2 10) 9 3 11) 9 4 12) 9 5 13) 9 6 14) 9 7 15) 9 8 16) 0 1 9) 17 2 18) 17 3 19) 17 4 20) 17 5 21) 17 6 22) 17 7 23) 17 8 24) 0 2 17) 25 0 26) 27 2 28) 27 3 29) 27 4 30) 27 5 31) 27 6 32) 27 7 33) 27 8 34) 26 0 27) 35 2 36) 35 3 37) 35 4 38) 35 5 39) 35 6 40) 35 7 41) 35 8 42) 26 1 35) 43 2 44) 43 3 45) 43 4 46) 43 5 47) 43 6 48) 43 7 49) 43 8 50) 26 2 43) 51 2 52) 51 3 53) 51 4 54) 51 5 55) 51 6 56) 51 7 57) 51 8 58) 26 3 51) 0 4 25) 59 0 60) 0 5 59) 61 0 62) 61 5 63) 61 6 64) 61 7 65) 0 6 61) 66 0 67) 66 1 68) 0 7 66)), 69, 5899), [], [])) 1 hl2 rfl ?_
  have hrf : (mm_upr (mm_upr (mm_upr (mm_upr (mm_upr (mm_upr (mm_upr (mm_upr (mm_upr (mm_upr (mm_upr (mm_upr (mm_upr (mm_upr (mm_upr (mm_upr (mm_upr (mm_upr (mm_upr (mm_upr (mm_upr (mm_upr (mm_upr (mm_upr (mm_upr (mm_upr (mm_upr (mm_upr (mm_upr (mm_upr (mm_upr (mm_upr (mm_upr (mm_upr (mm_upr (mm_upr (mm_upr (mm_upr (mm_upr (mm_upr (mm_upr (mm_upr (mm_upr (mm_upr (mm_upr (mm_upr (mm_upr (mm_upr (mm_upr (mm_upr (mm_upr (mm_upr (mm_upr (mm_upr (mm_upr (mm_upr (mm_upr (mm_upr (mm_upr (mm_upr (mm_upr (mm_upr (mm_upr (mm_upr (mm_upr (mm_upr (mm_upr (mm_upr (fun _ _ => none) 1 2 2) 1 3 3) 1 4 4) 1 5 5) 1 6 6) 1 7 7) 1 8 8) 0 0 1) 9 2 10) 9 3 11) 9 4 12) 9 5 13) 9 6 14) 9 7 15) 9 8 16) 0 1 9) 17 2 18) 17 3 19) 17 4 20) 17 5 21) 17 6 22) 17 7 23) 17 8 24) 0 2 17) 25 0 26) 27 2 28) 27 3 29) 27 4 30) 27 5 31) 27 6 32) 27 7 33) 27 8 34) 26 0 27) 35 2 36) 35 3 37) 35 4 38) 35 5 39) 35 6 40) 35 7 41) 35 8 42) 26 1 35) 43 2 44) 43 3 45) 43 4 46) 43 5 47) 43 6 48) 43 7 49) 43 8 50) 26 2 43) 51 2 52) 51 3 53) 51 4 54) 51 5 55) 51 6 56) 51 7 57) 51 8 58) 26 3 51) 0 4 25) 59 0 60) 0 5 59) 61 0 62) 61 5 63) 61 6 64) 61 7 65) 0 6 61) 66 0 67) 66 1 68) 0 7 66) = mm_mr [27, 35, 43, 51] := by
    rw [← stF_eq]
    rfl
  rw [hrf]
  exact law_setup hq
end SL
def mm_S0 : mm_S := ([], fun _ _ => 0, fun _ _ => none)
theorem ml_lawOK (L : Nat) (xs : Nat → Int) (hL : L ≤ 260) (hx : ∀ j, -2147483648 ≤ xs j ∧ xs j < 2147483648) : ∃ (n : Nat) (S1 : mm_S), ml_run (L, xs) n 2 ((0, mm_entry mi_L_law [.inr none], [], mm_S0, 0, 0), [], []) = some (.inl (.inl 1), S1) := by
  obtain ⟨n, v, S1, g1, g2⟩ := law_start (X := (L, xs)) (Q := fun v _ => v = .inl (.inl 1)) (fun _ _ => rfl)
  subst g2
  exact ⟨n, S1, g1⟩
