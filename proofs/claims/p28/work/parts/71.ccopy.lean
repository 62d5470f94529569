-- THE CLASS copies a State (written by gen26.py)
theorem mm_cpy_at {f : mm_M} {s d n b j : Nat} : mm_cpy f s 0 d 0 n b j = if b = d ∧ j < n then f s j else f b j := by
  unfold mm_cpy
  by_cases q : b = d
  · rw [if_pos q]
    by_cases q2 : j < n
    · rw [if_pos (by omega), if_pos ⟨q, q2⟩]
      exact congrArg (f s) (by omega)
    · rw [if_neg (by omega), if_neg (fun z => q2 z.2)]
  · rw [if_neg q, if_neg (fun z => q z.1)]
def cLn (i : Nat) : Nat := [6, 6, 12, 72, 120, 240, 120].getD i 0
/-- the first j arrays are copied -/
def cPd (j : Nat) (mi M : mm_M) (a b : Nat) : Prop := (M a 0 = mi b 0 ∧ M a 1 = mi b 1) ∧ (∀ i, i < j → ∀ k, k < cLn i → M (a + 1 + i) k = mi (b + 1 + i) k) ∧ ∀ x, ¬ (a ≤ x ∧ x < a + 1 + j) → M x = mi x
/-- a State holds what another one held -/
def cCpd (mi M : mm_M) (a b : Nat) : Prop := (M a 0 = mi b 0 ∧ M a 1 = mi b 1 ∧ M a 9 = mi b 9 ∧ M a 10 = mi b 10 ∧ M a 11 = mi b 11 ∧ M a 12 = mi b 12) ∧ ∀ i, i < 7 → ∀ k, k < cLn i → M (a + 1 + i) k = mi (b + 1 + i) k
/-- nothing but one State -/
def cFA (a : Nat) (mi M : mm_M) : Prop := ∀ x, ¬ (a ≤ x ∧ x < a + 8) → M x = mi x
theorem cPd_0 {mi : mm_M} {a b : Nat} (hd : a ≠ b) : cPd 0 mi (mm_up (mm_up mi a 0 (mi b 0)) a 1 (mi b 1)) a b := by
  refine ⟨⟨by rw [mm_up_at2 (by decide), mm_up_at], by rw [mm_up_at]⟩, fun i hi => absurd hi (Nat.not_lt_zero _), fun x hx => by rw [mm_up_ne (by omega), mm_up_ne (by omega)]⟩
theorem cPd_s {mi M : mm_M} {a b j : Nat} (hd : a + 8 ≤ b ∨ b + 8 ≤ a) (hj : j < 7) (h : cPd j mi M a b) : cPd (j + 1) mi (mm_cpy M (b + 1 + j) 0 (a + 1 + j) 0 (cLn j)) a b := by
  obtain ⟨⟨h0, h1⟩, h2, h3⟩ := h
  refine ⟨⟨by rw [mm_cpy_at, if_neg (by omega)]; exact h0, by rw [mm_cpy_at, if_neg (by omega)]; exact h1⟩, fun i hi k hk => ?_, fun x hx => ?_⟩
  · rw [mm_cpy_at]
    by_cases e : i = j
    · subst e
      rw [if_pos ⟨rfl, hk⟩, h3 _ (by omega)]
    · rw [if_neg (by omega)]
      exact h2 i (by omega) k hk
  · funext k
    rw [mm_cpy_at, if_neg (by omega), h3 x (by omega)]
theorem cPd_f {mi M : mm_M} {a b : Nat} (hd : a + 8 ≤ b ∨ b + 8 ≤ a) (h : cPd 7 mi M a b) : cCpd mi (mm_up (mm_up (mm_up (mm_up M a 9 (M b 9)) a 10 (M b 10)) a 11 (M b 11)) a 12 (M b 12)) a b ∧ cFA a mi (mm_up (mm_up (mm_up (mm_up M a 9 (M b 9)) a 10 (M b 10)) a 11 (M b 11)) a 12 (M b 12)) := by
  obtain ⟨⟨h0, h1⟩, h2, h3⟩ := h
  have hb : M b = mi b := h3 b (by omega)
  rw [hb]
  refine ⟨⟨⟨?_, ?_, ?_, ?_, ?_, ?_⟩, fun i hi k hk => ?_⟩, fun x hx => ?_⟩
  · rw [mm_up_at2 (by decide), mm_up_at2 (by decide), mm_up_at2 (by decide), mm_up_at2 (by decide)]; exact h0
  · rw [mm_up_at2 (by decide), mm_up_at2 (by decide), mm_up_at2 (by decide), mm_up_at2 (by decide)]; exact h1
  · rw [mm_up_at2 (by decide), mm_up_at2 (by decide), mm_up_at2 (by decide), mm_up_at]
  · rw [mm_up_at2 (by decide), mm_up_at2 (by decide), mm_up_at]
  · rw [mm_up_at2 (by decide), mm_up_at]
  · rw [mm_up_at]
  · rw [mm_up_ne (by omega), mm_up_ne (by omega), mm_up_ne (by omega), mm_up_ne (by omega)]
    exact h2 i hi k hk
  · rw [mm_up_ne (by omega), mm_up_ne (by omega), mm_up_ne (by omega), mm_up_ne (by omega)]
    exact h3 x (by omega)
section CCP
variable {X : Nat × (Nat → Int)} {mi : mm_M} {h : mm_H} {Q : Option mm_V → mm_S → Prop}
theorem sp34p27_1 (hq : ∀ M, cCpd mi M 27 1 → cFA 27 mi M → Q none (mm_ms0 M h)) : mcl X 34 [.inr (some 27), .inr (some 1)] (mm_ms0 mi h) Q := by
  have h0 := cPd_0 (mi := mi) (a := 27) (b := 1) (by decide)
  have h1 := cPd_s (by decide) (by decide) h0
  have h2 := cPd_s (by decide) (by decide) h1
  have h3 := cPd_s (by decide) (by decide) h2
  have h4 := cPd_s (by decide) (by decide) h3
  have h5 := cPd_s (by decide) (by decide) h4
  have h6 := cPd_s (by decide) (by decide) h5
  have h7 := cPd_s (by decide) (by decide) h6
  have h8 := cPd_f (by decide) h7
  rw [c34p27_1, b34p27_1_0, mm_andT (by decide), b34p27_1_34, mm_andT (by decide), b34p27_1_52, mm_andT (by decide), b34p27_1_70, mm_andT (by decide), b34p27_1_88, mm_andT (by decide), b34p27_1_106, mm_andT (by decide), b34p27_1_124, mm_andT (by decide), b34p27_1_142]
  exact hq _ h8.1 h8.2
theorem sp34p35_1 (hq : ∀ M, cCpd mi M 35 1 → cFA 35 mi M → Q none (mm_ms0 M h)) : mcl X 34 [.inr (some 35), .inr (some 1)] (mm_ms0 mi h) Q := by
  have h0 := cPd_0 (mi := mi) (a := 35) (b := 1) (by decide)
  have h1 := cPd_s (by decide) (by decide) h0
  have h2 := cPd_s (by decide) (by decide) h1
  have h3 := cPd_s (by decide) (by decide) h2
  have h4 := cPd_s (by decide) (by decide) h3
  have h5 := cPd_s (by decide) (by decide) h4
  have h6 := cPd_s (by decide) (by decide) h5
  have h7 := cPd_s (by decide) (by decide) h6
  have h8 := cPd_f (by decide) h7
  rw [c34p35_1, b34p35_1_0, mm_andT (by decide), b34p35_1_34, mm_andT (by decide), b34p35_1_52, mm_andT (by decide), b34p35_1_70, mm_andT (by decide), b34p35_1_88, mm_andT (by decide), b34p35_1_106, mm_andT (by decide), b34p35_1_124, mm_andT (by decide), b34p35_1_142]
  exact hq _ h8.1 h8.2
theorem sp34p43_1 (hq : ∀ M, cCpd mi M 43 1 → cFA 43 mi M → Q none (mm_ms0 M h)) : mcl X 34 [.inr (some 43), .inr (some 1)] (mm_ms0 mi h) Q := by
  have h0 := cPd_0 (mi := mi) (a := 43) (b := 1) (by decide)
  have h1 := cPd_s (by decide) (by decide) h0
  have h2 := cPd_s (by decide) (by decide) h1
  have h3 := cPd_s (by decide) (by decide) h2
  have h4 := cPd_s (by decide) (by decide) h3
  have h5 := cPd_s (by decide) (by decide) h4
  have h6 := cPd_s (by decide) (by decide) h5
  have h7 := cPd_s (by decide) (by decide) h6
  have h8 := cPd_f (by decide) h7
  rw [c34p43_1, b34p43_1_0, mm_andT (by decide), b34p43_1_34, mm_andT (by decide), b34p43_1_52, mm_andT (by decide), b34p43_1_70, mm_andT (by decide), b34p43_1_88, mm_andT (by decide), b34p43_1_106, mm_andT (by decide), b34p43_1_124, mm_andT (by decide), b34p43_1_142]
  exact hq _ h8.1 h8.2
theorem sp34p51_1 (hq : ∀ M, cCpd mi M 51 1 → cFA 51 mi M → Q none (mm_ms0 M h)) : mcl X 34 [.inr (some 51), .inr (some 1)] (mm_ms0 mi h) Q := by
  have h0 := cPd_0 (mi := mi) (a := 51) (b := 1) (by decide)
  have h1 := cPd_s (by decide) (by decide) h0
  have h2 := cPd_s (by decide) (by decide) h1
  have h3 := cPd_s (by decide) (by decide) h2
  have h4 := cPd_s (by decide) (by decide) h3
  have h5 := cPd_s (by decide) (by decide) h4
  have h6 := cPd_s (by decide) (by decide) h5
  have h7 := cPd_s (by decide) (by decide) h6
  have h8 := cPd_f (by decide) h7
  rw [c34p51_1, b34p51_1_0, mm_andT (by decide), b34p51_1_34, mm_andT (by decide), b34p51_1_52, mm_andT (by decide), b34p51_1_70, mm_andT (by decide), b34p51_1_88, mm_andT (by decide), b34p51_1_106, mm_andT (by decide), b34p51_1_124, mm_andT (by decide), b34p51_1_142]
  exact hq _ h8.1 h8.2
theorem sp34p27_9 (hq : ∀ M, cCpd mi M 27 9 → cFA 27 mi M → Q none (mm_ms0 M h)) : mcl X 34 [.inr (some 27), .inr (some 9)] (mm_ms0 mi h) Q := by
  have h0 := cPd_0 (mi := mi) (a := 27) (b := 9) (by decide)
  have h1 := cPd_s (by decide) (by decide) h0
  have h2 := cPd_s (by decide) (by decide) h1
  have h3 := cPd_s (by decide) (by decide) h2
  have h4 := cPd_s (by decide) (by decide) h3
  have h5 := cPd_s (by decide) (by decide) h4
  have h6 := cPd_s (by decide) (by decide) h5
  have h7 := cPd_s (by decide) (by decide) h6
  have h8 := cPd_f (by decide) h7
  rw [c34p27_9, b34p27_9_0, mm_andT (by decide), b34p27_9_34, mm_andT (by decide), b34p27_9_52, mm_andT (by decide), b34p27_9_70, mm_andT (by decide), b34p27_9_88, mm_andT (by decide), b34p27_9_106, mm_andT (by decide), b34p27_9_124, mm_andT (by decide), b34p27_9_142]
  exact hq _ h8.1 h8.2
theorem sp34p35_9 (hq : ∀ M, cCpd mi M 35 9 → cFA 35 mi M → Q none (mm_ms0 M h)) : mcl X 34 [.inr (some 35), .inr (some 9)] (mm_ms0 mi h) Q := by
  have h0 := cPd_0 (mi := mi) (a := 35) (b := 9) (by decide)
  have h1 := cPd_s (by decide) (by decide) h0
  have h2 := cPd_s (by decide) (by decide) h1
  have h3 := cPd_s (by decide) (by decide) h2
  have h4 := cPd_s (by decide) (by decide) h3
  have h5 := cPd_s (by decide) (by decide) h4
  have h6 := cPd_s (by decide) (by decide) h5
  have h7 := cPd_s (by decide) (by decide) h6
  have h8 := cPd_f (by decide) h7
  rw [c34p35_9, b34p35_9_0, mm_andT (by decide), b34p35_9_34, mm_andT (by decide), b34p35_9_52, mm_andT (by decide), b34p35_9_70, mm_andT (by decide), b34p35_9_88, mm_andT (by decide), b34p35_9_106, mm_andT (by decide), b34p35_9_124, mm_andT (by decide), b34p35_9_142]
  exact hq _ h8.1 h8.2
theorem sp34p43_9 (hq : ∀ M, cCpd mi M 43 9 → cFA 43 mi M → Q none (mm_ms0 M h)) : mcl X 34 [.inr (some 43), .inr (some 9)] (mm_ms0 mi h) Q := by
  have h0 := cPd_0 (mi := mi) (a := 43) (b := 9) (by decide)
  have h1 := cPd_s (by decide) (by decide) h0
  have h2 := cPd_s (by decide) (by decide) h1
  have h3 := cPd_s (by decide) (by decide) h2
  have h4 := cPd_s (by decide) (by decide) h3
  have h5 := cPd_s (by decide) (by decide) h4
  have h6 := cPd_s (by decide) (by decide) h5
  have h7 := cPd_s (by decide) (by decide) h6
  have h8 := cPd_f (by decide) h7
  rw [c34p43_9, b34p43_9_0, mm_andT (by decide), b34p43_9_34, mm_andT (by decide), b34p43_9_52, mm_andT (by decide), b34p43_9_70, mm_andT (by decide), b34p43_9_88, mm_andT (by decide), b34p43_9_106, mm_andT (by decide), b34p43_9_124, mm_andT (by decide), b34p43_9_142]
  exact hq _ h8.1 h8.2
theorem sp34p51_9 (hq : ∀ M, cCpd mi M 51 9 → cFA 51 mi M → Q none (mm_ms0 M h)) : mcl X 34 [.inr (some 51), .inr (some 9)] (mm_ms0 mi h) Q := by
  have h0 := cPd_0 (mi := mi) (a := 51) (b := 9) (by decide)
  have h1 := cPd_s (by decide) (by decide) h0
  have h2 := cPd_s (by decide) (by decide) h1
  have h3 := cPd_s (by decide) (by decide) h2
  have h4 := cPd_s (by decide) (by decide) h3
  have h5 := cPd_s (by decide) (by decide) h4
  have h6 := cPd_s (by decide) (by decide) h5
  have h7 := cPd_s (by decide) (by decide) h6
  have h8 := cPd_f (by decide) h7
  rw [c34p51_9, b34p51_9_0, mm_andT (by decide), b34p51_9_34, mm_andT (by decide), b34p51_9_52, mm_andT (by decide), b34p51_9_70, mm_andT (by decide), b34p51_9_88, mm_andT (by decide), b34p51_9_106, mm_andT (by decide), b34p51_9_124, mm_andT (by decide), b34p51_9_142]
  exact hq _ h8.1 h8.2
theorem sp34p1_27 (hq : ∀ M, cCpd mi M 1 27 → cFA 1 mi M → Q none (mm_ms0 M h)) : mcl X 34 [.inr (some 1), .inr (some 27)] (mm_ms0 mi h) Q := by
  have h0 := cPd_0 (mi := mi) (a := 1) (b := 27) (by decide)
  have h1 := cPd_s (by decide) (by decide) h0
  have h2 := cPd_s (by decide) (by decide) h1
  have h3 := cPd_s (by decide) (by decide) h2
  have h4 := cPd_s (by decide) (by decide) h3
  have h5 := cPd_s (by decide) (by decide) h4
  have h6 := cPd_s (by decide) (by decide) h5
  have h7 := cPd_s (by decide) (by decide) h6
  have h8 := cPd_f (by decide) h7
  rw [c34p1_27, b34p1_27_0, mm_andT (by decide), b34p1_27_34, mm_andT (by decide), b34p1_27_52, mm_andT (by decide), b34p1_27_70, mm_andT (by decide), b34p1_27_88, mm_andT (by decide), b34p1_27_106, mm_andT (by decide), b34p1_27_124, mm_andT (by decide), b34p1_27_142]
  exact hq _ h8.1 h8.2
theorem sp34p1_35 (hq : ∀ M, cCpd mi M 1 35 → cFA 1 mi M → Q none (mm_ms0 M h)) : mcl X 34 [.inr (some 1), .inr (some 35)] (mm_ms0 mi h) Q := by
  have h0 := cPd_0 (mi := mi) (a := 1) (b := 35) (by decide)
  have h1 := cPd_s (by decide) (by decide) h0
  have h2 := cPd_s (by decide) (by decide) h1
  have h3 := cPd_s (by decide) (by decide) h2
  have h4 := cPd_s (by decide) (by decide) h3
  have h5 := cPd_s (by decide) (by decide) h4
  have h6 := cPd_s (by decide) (by decide) h5
  have h7 := cPd_s (by decide) (by decide) h6
  have h8 := cPd_f (by decide) h7
  rw [c34p1_35, b34p1_35_0, mm_andT (by decide), b34p1_35_34, mm_andT (by decide), b34p1_35_52, mm_andT (by decide), b34p1_35_70, mm_andT (by decide), b34p1_35_88, mm_andT (by decide), b34p1_35_106, mm_andT (by decide), b34p1_35_124, mm_andT (by decide), b34p1_35_142]
  exact hq _ h8.1 h8.2
theorem sp34p1_43 (hq : ∀ M, cCpd mi M 1 43 → cFA 1 mi M → Q none (mm_ms0 M h)) : mcl X 34 [.inr (some 1), .inr (some 43)] (mm_ms0 mi h) Q := by
  have h0 := cPd_0 (mi := mi) (a := 1) (b := 43) (by decide)
  have h1 := cPd_s (by decide) (by decide) h0
  have h2 := cPd_s (by decide) (by decide) h1
  have h3 := cPd_s (by decide) (by decide) h2
  have h4 := cPd_s (by decide) (by decide) h3
  have h5 := cPd_s (by decide) (by decide) h4
  have h6 := cPd_s (by decide) (by decide) h5
  have h7 := cPd_s (by decide) (by decide) h6
  have h8 := cPd_f (by decide) h7
  rw [c34p1_43, b34p1_43_0, mm_andT (by decide), b34p1_43_34, mm_andT (by decide), b34p1_43_52, mm_andT (by decide), b34p1_43_70, mm_andT (by decide), b34p1_43_88, mm_andT (by decide), b34p1_43_106, mm_andT (by decide), b34p1_43_124, mm_andT (by decide), b34p1_43_142]
  exact hq _ h8.1 h8.2
theorem sp34p1_51 (hq : ∀ M, cCpd mi M 1 51 → cFA 1 mi M → Q none (mm_ms0 M h)) : mcl X 34 [.inr (some 1), .inr (some 51)] (mm_ms0 mi h) Q := by
  have h0 := cPd_0 (mi := mi) (a := 1) (b := 51) (by decide)
  have h1 := cPd_s (by decide) (by decide) h0
  have h2 := cPd_s (by decide) (by decide) h1
  have h3 := cPd_s (by decide) (by decide) h2
  have h4 := cPd_s (by decide) (by decide) h3
  have h5 := cPd_s (by decide) (by decide) h4
  have h6 := cPd_s (by decide) (by decide) h5
  have h7 := cPd_s (by decide) (by decide) h6
  have h8 := cPd_f (by decide) h7
  rw [c34p1_51, b34p1_51_0, mm_andT (by decide), b34p1_51_34, mm_andT (by decide), b34p1_51_52, mm_andT (by decide), b34p1_51_70, mm_andT (by decide), b34p1_51_88, mm_andT (by decide), b34p1_51_106, mm_andT (by decide), b34p1_51_124, mm_andT (by decide), b34p1_51_142]
  exact hq _ h8.1 h8.2
theorem sp34p9_1 (hq : ∀ M, cCpd mi M 9 1 → cFA 9 mi M → Q none (mm_ms0 M h)) : mcl X 34 [.inr (some 9), .inr (some 1)] (mm_ms0 mi h) Q := by
  have h0 := cPd_0 (mi := mi) (a := 9) (b := 1) (by decide)
  have h1 := cPd_s (by decide) (by decide) h0
  have h2 := cPd_s (by decide) (by decide) h1
  have h3 := cPd_s (by decide) (by decide) h2
  have h4 := cPd_s (by decide) (by decide) h3
  have h5 := cPd_s (by decide) (by decide) h4
  have h6 := cPd_s (by decide) (by decide) h5
  have h7 := cPd_s (by decide) (by decide) h6
  have h8 := cPd_f (by decide) h7
  rw [c34p9_1, b34p9_1_0, mm_andT (by decide), b34p9_1_34, mm_andT (by decide), b34p9_1_52, mm_andT (by decide), b34p9_1_70, mm_andT (by decide), b34p9_1_88, mm_andT (by decide), b34p9_1_106, mm_andT (by decide), b34p9_1_124, mm_andT (by decide), b34p9_1_142]
  exact hq _ h8.1 h8.2
theorem sp34p1_9 (hq : ∀ M, cCpd mi M 1 9 → cFA 1 mi M → Q none (mm_ms0 M h)) : mcl X 34 [.inr (some 1), .inr (some 9)] (mm_ms0 mi h) Q := by
  have h0 := cPd_0 (mi := mi) (a := 1) (b := 9) (by decide)
  have h1 := cPd_s (by decide) (by decide) h0
  have h2 := cPd_s (by decide) (by decide) h1
  have h3 := cPd_s (by decide) (by decide) h2
  have h4 := cPd_s (by decide) (by decide) h3
  have h5 := cPd_s (by decide) (by decide) h4
  have h6 := cPd_s (by decide) (by decide) h5
  have h7 := cPd_s (by decide) (by decide) h6
  have h8 := cPd_f (by decide) h7
  rw [c34p1_9, b34p1_9_0, mm_andT (by decide), b34p1_9_34, mm_andT (by decide), b34p1_9_52, mm_andT (by decide), b34p1_9_70, mm_andT (by decide), b34p1_9_88, mm_andT (by decide), b34p1_9_106, mm_andT (by decide), b34p1_9_124, mm_andT (by decide), b34p1_9_142]
  exact hq _ h8.1 h8.2
theorem sp34p17_1 (hq : ∀ M, cCpd mi M 17 1 → cFA 17 mi M → Q none (mm_ms0 M h)) : mcl X 34 [.inr (some 17), .inr (some 1)] (mm_ms0 mi h) Q := by
  have h0 := cPd_0 (mi := mi) (a := 17) (b := 1) (by decide)
  have h1 := cPd_s (by decide) (by decide) h0
  have h2 := cPd_s (by decide) (by decide) h1
  have h3 := cPd_s (by decide) (by decide) h2
  have h4 := cPd_s (by decide) (by decide) h3
  have h5 := cPd_s (by decide) (by decide) h4
  have h6 := cPd_s (by decide) (by decide) h5
  have h7 := cPd_s (by decide) (by decide) h6
  have h8 := cPd_f (by decide) h7
  rw [c34p17_1, b34p17_1_0, mm_andT (by decide), b34p17_1_34, mm_andT (by decide), b34p17_1_52, mm_andT (by decide), b34p17_1_70, mm_andT (by decide), b34p17_1_88, mm_andT (by decide), b34p17_1_106, mm_andT (by decide), b34p17_1_124, mm_andT (by decide), b34p17_1_142]
  exact hq _ h8.1 h8.2
theorem sp34p1_17 (hq : ∀ M, cCpd mi M 1 17 → cFA 1 mi M → Q none (mm_ms0 M h)) : mcl X 34 [.inr (some 1), .inr (some 17)] (mm_ms0 mi h) Q := by
  have h0 := cPd_0 (mi := mi) (a := 1) (b := 17) (by decide)
  have h1 := cPd_s (by decide) (by decide) h0
  have h2 := cPd_s (by decide) (by decide) h1
  have h3 := cPd_s (by decide) (by decide) h2
  have h4 := cPd_s (by decide) (by decide) h3
  have h5 := cPd_s (by decide) (by decide) h4
  have h6 := cPd_s (by decide) (by decide) h5
  have h7 := cPd_s (by decide) (by decide) h6
  have h8 := cPd_f (by decide) h7
  rw [c34p1_17, b34p1_17_0, mm_andT (by decide), b34p1_17_34, mm_andT (by decide), b34p1_17_52, mm_andT (by decide), b34p1_17_70, mm_andT (by decide), b34p1_17_88, mm_andT (by decide), b34p1_17_106, mm_andT (by decide), b34p1_17_124, mm_andT (by decide), b34p1_17_142]
  exact hq _ h8.1 h8.2
end CCP
