-- THE START: all objects stand, and both hold nothing (laid by gen86.py)
def stU : List (Nat × Nat × Nat) := [(1, 2, 2), (1, 3, 3), (1, 4, 4), (1, 5, 5), (1, 6, 6), (1, 7, 7), (1, 8, 8), (0, 0, 1), (9, 2, 10), (9, 3, 11), (9, 4, 12), (9, 5, 13), (9, 6, 14), (9, 7, 15), (9, 8, 16), (0, 1, 9), (17, 2, 18), (17, 3, 19), (17, 4, 20), (17, 5, 21), (17, 6, 22), (17, 7, 23), (17, 8, 24), (0, 2, 17), (25, 0, 26), (27, 2, 28), (27, 3, 29), (27, 4, 30), (27, 5, 31), (27, 6, 32), (27, 7, 33), (27, 8, 34), (26, 0, 27), (35, 2, 36), (35, 3, 37), (35, 4, 38), (35, 5, 39), (35, 6, 40), (35, 7, 41), (35, 8, 42), (26, 1, 35), (43, 2, 44), (43, 3, 45), (43, 4, 46), (43, 5, 47), (43, 6, 48), (43, 7, 49), (43, 8, 50), (26, 2, 43), (51, 2, 52), (51, 3, 53), (51, 4, 54), (51, 5, 55), (51, 6, 56), (51, 7, 57), (51, 8, 58), (26, 3, 51), (0, 4, 25), (59, 0, 60), (0, 5, 59), (61, 0, 62), (61, 5, 63), (61, 6, 64), (61, 7, 65), (0, 6, 61), (66, 0, 67), (66, 1, 68), (0, 7, 66), (69, 0, 70), (69, 3, 71), (69, 12, 72), (69, 13, 73), (69, 14, 74), (69, 15, 75)]
def stF : mm_Pt := stU.foldl (fun f q => mm_upr f q.1 q.2.1 q.2.2) (fun _ _ => none)
theorem stF_out : ∀ (U : List (Nat × Nat × Nat)) (f : mm_Pt) (a k : Nat), (∀ q ∈ U, ¬ (q.1 = a ∧ q.2.1 = k)) → U.foldl (fun f q => mm_upr f q.1 q.2.1 q.2.2) f a k = f a k := by
  intro U
  induction U with
  | nil => intro f a k _; rfl
  | cons q U ih =>
    intro f a k h
    rw [List.foldl_cons, ih _ a k (fun p hp => h p (List.mem_cons_of_mem _ hp))]
    have hq := h q List.mem_cons_self
    unfold mm_upr
    by_cases e : a = q.1
    · rw [if_pos e, if_neg (fun z => hq ⟨e.symm, z.symm⟩)]
    · rw [if_neg e]
theorem stF_in : ∀ a, a < 76 → ∀ k, k < 20 → stF a k = mm_mr [27, 35, 43, 51] a k := by decide +kernel
theorem stU_in : ∀ q ∈ stU, q.1 < 76 ∧ q.2.1 < 20 := by decide +kernel
theorem mm_RF_len : ∀ a, a < 76 → (mm_RF.getD a []).length ≤ 20 := by decide +kernel
theorem stF_eq : stF = mm_mr [27, 35, 43, 51] := by
  funext a k
  by_cases h1 : a < 76 ∧ k < 20
  · exact stF_in a h1.1 k h1.2
  · have e1 : stF a k = none := by
      unfold stF
      rw [stF_out stU _ a k (fun q hq z => h1 (by have := stU_in q hq; omega))]
    rw [e1]
    unfold mm_mr
    by_cases e : a = 26
    · subst e
      rw [show ((26 : Nat) == 26) = true from rfl, cond_true, List.getElem?_eq_none]
      show 4 ≤ k
      omega
    · rw [show (a == 26) = false by simp [e], cond_false]
      by_cases ha : a < 76
      · have := mm_RF_len a ha
        rw [List.getD_eq_getElem?_getD, List.getElem?_eq_none (by omega)]
        rfl
      · have : mm_RF.getD a [] = [] := by
          rw [List.getD_eq_getElem?_getD, List.getElem?_eq_none (by
            show mm_RF.length ≤ a
            have : mm_RF.length = 76 := by decide +kernel
            omega)]
          rfl
        rw [this]
        rfl
def stZ : mm_M := fun _ _ => 0
def stM : mm_M := mm_up (mm_up (mm_up stZ 59 6 (-1)) 59 7 (-1)) 61 3 (-9)
theorem st_both {m2 : mm_M} (h1 : ∀ a, a ≠ 70 → m2 a = stM a) (h2 : ∀ k, m2 70 k = if 198 ≤ k ∧ k < 798 then -1 else stM 70 k) : bothG m2 [27, 35, 43, 51] := by
  have z : ∀ a k, a ≠ 59 → a ≠ 61 → a ≠ 70 → m2 a k = 0 := by
    intro a k e1 e2 e3
    rw [h1 a e3]
    unfold stM
    rw [mm_up_ne e2, mm_up_ne e1, mm_up_ne e1]
    rfl
  have z70 : ∀ k, m2 70 k = if 198 ≤ k ∧ k < 798 then -1 else 0 := by
    intro k
    rw [h2]
    unfold stM
    rw [mm_up_ne (by decide), mm_up_ne (by decide), mm_up_ne (by decide)]
    rfl
  have b : ∀ w : Int, w < 198 → kBlk m2 0 w = 0 := by
    intro w hw
    by_cases q : 0 ≤ w
    · rw [← mB_0 (by omega), z70, if_neg (by omega)]
    · exact mB_out _ (by omega)
  have ce : ∀ x : Int, 0 ≤ x → x < 600 → kCe (kBlk m2 0) x = -1 := by
    intro x g1 g2
    show kBlk m2 0 (198 + x) = -1
    rw [← mB_0 (by omega), z70, if_pos (by omega)]
  have hI : bInv (kBlk m2 0) := bInv_zero (b 0 (by decide)) (b 1 (by decide)) (b 5 (by decide)) ce
  have cols : ∀ t, kCols (kBlk m2 0) t = 0 := by
    intro t
    unfold kCols
    rw [b 1 (by decide)]
    rfl
  have zz : ∀ a k, a < 59 → m2 a k = 0 := fun a k ha => z a k (by omega) (by omega) (by omega)
  have hS : cS m2 1 (kBlk m2 0) := by
    refine ⟨hI, ⟨?_, ?_, ?_, ?_, ?_, ?_⟩, ⟨fun i hi => ?_, fun i hi => ?_⟩, ⟨fun t ht => ?_, fun r hr => ?_⟩, fun t ht => ?_⟩
    · rw [zz 1 _ (by decide), b 0 (by decide)]
    · rw [zz 1 _ (by decide), b 1 (by decide)]
    · rw [zz 1 _ (by decide), b 5 (by decide)]
    · rw [zz 1 _ (by decide), b 2 (by decide)]
    · rw [zz 1 _ (by decide), b 3 (by decide)]
    · rw [zz 1 _ (by decide), b 4 (by decide)]
    · rw [b 1 (by decide)] at hi
      omega
    · rw [b 5 (by decide)] at hi
      omega
    · rw [zz _ _ (by omega), cols]
    · rw [b 1 (by decide)] at hr
      omega
    · have e : cRc m2 1 t = 0 := zz 2 _ (by decide)
      refine ⟨by rw [e]; decide, fun _ => e, fun j hj => by rw [e] at hj; omega, fun i j _ hj => by rw [e] at hj; omega, fun k hk hc => ?_⟩
      rw [ce _ (by omega) (by omega)] at hc
      omega
  have n0 : m2 69 1 = 0 := z 69 1 (by decide) (by decide) (by decide)
  have e59 : m2 59 1 = 0 := by
    rw [h1 59 (by decide)]
    unfold stM
    rw [mm_up_ne (by decide), mm_up_at2 (by decide), mm_up_at2 (by decide)]
    rfl
  refine ⟨⟨⟨hOk_mk ⟨Or.inl rfl, Or.inr (Or.inl rfl), Or.inr (Or.inr (Or.inl rfl)), Or.inr (Or.inr (Or.inr rfl))⟩ (by decide), ?_, ?_, fun i hi => ?_⟩, ⟨hS, bFk_zero (b 1 (by decide))⟩, Or.inl (zz 0 3 (by decide)), fun y => absurd (zz 0 3 (by decide)) y⟩, ?_, ?_, ?_, ?_⟩
  · rw [n0]
    decide
  · rw [n0, zz 25 1 (by decide)]
  · rw [n0] at hi
    omega
  · rw [zz 0 3 (by decide), z 69 2 (by decide) (by decide) (by decide)]
  · rw [e59]
    decide
  · rw [e59, z 69 4 (by decide) (by decide) (by decide)]
  · funext k
    rw [z 71 k (by decide) (by decide) (by decide), z 60 k (by decide) (by decide) (by decide)]
def mm_law : Nat := 154
def mm_S0 : mm_S := ([], fun _ _ => 0, fun _ _ => none)
section ST
variable {X : Nat × (Nat → Int)} {Q : Option mm_V → mm_S → Prop}
theorem law_start (hq : ∀ mi h, bothG mi h → lwp X 18 0 [] (mm_ms0 mi h) Q) : gwp X 154 (0, mm_entry mi_L_law [.inr none], [], mm_S0, 0, 0) Q := by
  refine gwp_steps (c2 := (4, [some (.inr none), none, none, none], [.inr (some 0), .inr (some 0)], (mm_SH.take 1, stZ, fun _ _ => none), 1, 8)) 2 he154 rfl ?_
  refine gwp_call (ins := .invokespecial 9) (len := 3) (tgt := 0) (k := 59) (as := [.inr (some 0)]) (pc2 := 7) (L2 := [some (.inr none), none, none, none]) (r := [.inr (some 0)]) (S := (mm_SH.take 1, stZ, fun _ _ => none)) (cu := 69) (su := 5899) he154 he59 rfl rfl ?_
  refine gSD (fun _ _ => rfl) ?_
  show gwp X 154 (7, [some (.inr none), none, none, none], [.inr (some 0)], (mm_SH.take 69, stM, (mm_upr (mm_upr (mm_upr (mm_upr (mm_upr (mm_upr (mm_upr (mm_upr (mm_upr (mm_upr (mm_upr (mm_upr (mm_upr (mm_upr (mm_upr (mm_upr (mm_upr (mm_upr (mm_upr (mm_upr (mm_upr (mm_upr (mm_upr (mm_upr (mm_upr (mm_upr (mm_upr (mm_upr (mm_upr (mm_upr (mm_upr (mm_upr (mm_upr (mm_upr (mm_upr (mm_upr (mm_upr (mm_upr (mm_upr (mm_upr (mm_upr (mm_upr (mm_upr (mm_upr (mm_upr (mm_upr (mm_upr (mm_upr (mm_upr (mm_upr (mm_upr (mm_upr (mm_upr (mm_upr (mm_upr (mm_upr (mm_upr (mm_upr (mm_upr (mm_upr (mm_upr (mm_upr (mm_upr (mm_upr (mm_upr (mm_upr (mm_upr (mm_upr (fun _ _ => none) 1 2 2) 1 3 3) 1 4 4) 1 5 5) 1 6 6) 1 7 7) 1 8 8) 0 0 1) 9 2 10) 9 3 11) 9 4 12) 9 5 13) 9 6 14) 9 7 15) 9 8 16) 0 1 9) 17 2 18) 17 3 19) 17 4 20) 17 5 21) 17 6 22) 17 7 23) 17 8 24) 0 2 17) 25 0 26) 27 2 28) 27 3 29) 27 4 30) 27 5 31) 27 6 32) 27 7 33) 27 8 34) 26 0 27) 35 2 36) 35 3 37) 35 4 38) 35 5 39) 35 6 40) 35 7 41) 35 8 42) 26 1 35) 43 2 44) 43 3 45) 43 4 46) 43 5 47) 43 6 48) 43 7 49) 43 8 50) 26 2 43) 51 2 52) 51 3 53) 51 4 54) 51 5 55) 51 6 56) 51 7 57) 51 8 58) 26 3 51) 0 4 25) 59 0 60) 0 5 59) 61 0 62) 61 5 63) 61 6 64) 61 7 65) 0 6 61) 66 0 67) 66 1 68) 0 7 66)), 69, 5899) Q
  refine gwp_steps (c2 := (12, [some (.inr none), some (.inr (some 0)), none, none], [.inr (some 69), .inr (some 69)], (mm_SH.take 70, stM, (mm_upr (mm_upr (mm_upr (mm_upr (mm_upr (mm_upr (mm_upr (mm_upr (mm_upr (mm_upr (mm_upr (mm_upr (mm_upr (mm_upr (mm_upr (mm_upr (mm_upr (mm_upr (mm_upr (mm_upr (mm_upr (mm_upr (mm_upr (mm_upr (mm_upr (mm_upr (mm_upr (mm_upr (mm_upr (mm_upr (mm_upr (mm_upr (mm_upr (mm_upr (mm_upr (mm_upr (mm_upr (mm_upr (mm_upr (mm_upr (mm_upr (mm_upr (mm_upr (mm_upr (mm_upr (mm_upr (mm_upr (mm_upr (mm_upr (mm_upr (mm_upr (mm_upr (mm_upr (mm_upr (mm_upr (mm_upr (mm_upr (mm_upr (mm_upr (mm_upr (mm_upr (mm_upr (mm_upr (mm_upr (mm_upr (mm_upr (mm_upr (mm_upr (fun _ _ => none) 1 2 2) 1 3 3) 1 4 4) 1 5 5) 1 6 6) 1 7 7) 1 8 8) 0 0 1) 9 2 10) 9 3 11) 9 4 12) 9 5 13) 9 6 14) 9 7 15) 9 8 16) 0 1 9) 17 2 18) 17 3 19) 17 4 20) 17 5 21) 17 6 22) 17 7 23) 17 8 24) 0 2 17) 25 0 26) 27 2 28) 27 3 29) 27 4 30) 27 5 31) 27 6 32) 27 7 33) 27 8 34) 26 0 27) 35 2 36) 35 3 37) 35 4 38) 35 5 39) 35 6 40) 35 7 41) 35 8 42) 26 1 35) 43 2 44) 43 3 45) 43 4 46) 43 5 47) 43 6 48) 43 7 49) 43 8 50) 26 2 43) 51 2 52) 51 3 53) 51 4 54) 51 5 55) 51 6 56) 51 7 57) 51 8 58) 26 3 51) 0 4 25) 59 0 60) 0 5 59) 61 0 62) 61 5 63) 61 6 64) 61 7 65) 0 6 61) 66 0 67) 66 1 68) 0 7 66)), 70, 5917)) 3 he154 rfl ?_
  refine gwp_call (ins := .invokespecial 12) (len := 3) (tgt := 0) (k := 90) (as := [.inr (some 69)]) (pc2 := 15) (L2 := [some (.inr none), some (.inr (some 0)), none, none]) (r := [.inr (some 69)]) (S := (mm_SH.take 70, stM, (mm_upr (mm_upr (mm_upr (mm_upr (mm_upr (mm_upr (mm_upr (mm_upr (mm_upr (mm_upr (mm_upr (mm_upr (mm_upr (mm_upr (mm_upr (mm_upr (mm_upr (mm_upr (mm_upr (mm_upr (mm_upr (mm_upr (mm_upr (mm_upr (mm_upr (mm_upr (mm_upr (mm_upr (mm_upr (mm_upr (mm_upr (mm_upr (mm_upr (mm_upr (mm_upr (mm_upr (mm_upr (mm_upr (mm_upr (mm_upr (mm_upr (mm_upr (mm_upr (mm_upr (mm_upr (mm_upr (mm_upr (mm_upr (mm_upr (mm_upr (mm_upr (mm_upr (mm_upr (mm_upr (mm_upr (mm_upr (mm_upr (mm_upr (mm_upr (mm_upr (mm_upr (mm_upr (mm_upr (mm_upr (mm_upr (mm_upr (mm_upr (mm_upr (fun _ _ => none) 1 2 2) 1 3 3) 1 4 4) 1 5 5) 1 6 6) 1 7 7) 1 8 8) 0 0 1) 9 2 10) 9 3 11) 9 4 12) 9 5 13) 9 6 14) 9 7 15) 9 8 16) 0 1 9) 17 2 18) 17 3 19) 17 4 20) 17 5 21) 17 6 22) 17 7 23) 17 8 24) 0 2 17) 25 0 26) 27 2 28) 27 3 29) 27 4 30) 27 5 31) 27 6 32) 27 7 33) 27 8 34) 26 0 27) 35 2 36) 35 3 37) 35 4 38) 35 5 39) 35 6 40) 35 7 41) 35 8 42) 26 1 35) 43 2 44) 43 3 45) 43 4 46) 43 5 47) 43 6 48) 43 7 49) 43 8 50) 26 2 43) 51 2 52) 51 3 53) 51 4 54) 51 5 55) 51 6 56) 51 7 57) 51 8 58) 26 3 51) 0 4 25) 59 0 60) 0 5 59) 61 0 62) 61 5 63) 61 6 64) 61 7 65) 0 6 61) 66 0 67) 66 1 68) 0 7 66))) (cu := 76) (su := 12523) he154 he90 rfl rfl ?_
  refine gModel ?_
  intro m2 h1 h2
  have hrf : (mm_upr (mm_upr (mm_upr (mm_upr (mm_upr (mm_upr (mm_upr (mm_upr (mm_upr (mm_upr (mm_upr (mm_upr (mm_upr (mm_upr (mm_upr (mm_upr (mm_upr (mm_upr (mm_upr (mm_upr (mm_upr (mm_upr (mm_upr (mm_upr (mm_upr (mm_upr (mm_upr (mm_upr (mm_upr (mm_upr (mm_upr (mm_upr (mm_upr (mm_upr (mm_upr (mm_upr (mm_upr (mm_upr (mm_upr (mm_upr (mm_upr (mm_upr (mm_upr (mm_upr (mm_upr (mm_upr (mm_upr (mm_upr (mm_upr (mm_upr (mm_upr (mm_upr (mm_upr (mm_upr (mm_upr (mm_upr (mm_upr (mm_upr (mm_upr (mm_upr (mm_upr (mm_upr (mm_upr (mm_upr (mm_upr (mm_upr (mm_upr (mm_upr (mm_upr (mm_upr (mm_upr (mm_upr (mm_upr (mm_upr (fun _ _ => none) 1 2 2) 1 3 3) 1 4 4) 1 5 5) 1 6 6) 1 7 7) 1 8 8) 0 0 1) 9 2 10) 9 3 11) 9 4 12) 9 5 13) 9 6 14) 9 7 15) 9 8 16) 0 1 9) 17 2 18) 17 3 19) 17 4 20) 17 5 21) 17 6 22) 17 7 23) 17 8 24) 0 2 17) 25 0 26) 27 2 28) 27 3 29) 27 4 30) 27 5 31) 27 6 32) 27 7 33) 27 8 34) 26 0 27) 35 2 36) 35 3 37) 35 4 38) 35 5 39) 35 6 40) 35 7 41) 35 8 42) 26 1 35) 43 2 44) 43 3 45) 43 4 46) 43 5 47) 43 6 48) 43 7 49) 43 8 50) 26 2 43) 51 2 52) 51 3 53) 51 4 54) 51 5 55) 51 6 56) 51 7 57) 51 8 58) 26 3 51) 0 4 25) 59 0 60) 0 5 59) 61 0 62) 61 5 63) 61 6 64) 61 7 65) 0 6 61) 66 0 67) 66 1 68) 0 7 66) 69 0 70) 69 3 71) 69 12 72) 69 13 73) 69 14 74) 69 15 75) = mm_mr [27, 35, 43, 51] := by
    rw [← stF_eq]
    rfl
  rw [hrf]
  show gwp X 154 (15, [some (.inr none), some (.inr (some 0)), none, none], [.inr (some 69)], mm_ms0 m2 [27, 35, 43, 51], 76, 12523) Q
  refine gwp_steps (c2 := (18, lwL 0, [], mm_ms0 m2 [27, 35, 43, 51], 76, 12523)) 3 he154 rfl ?_
  exact hq m2 _ (st_both h1 h2)
end ST
