-- THE INVARIANT OF BLOCKS
theorem cnt_add (p : Nat → Bool) (n m : Nat) : cnt (n + m) p = cnt n p + cnt m (fun k => p (n + k)) := by
  induction m with
  | zero => rw [cnt_zero]; simp
  | succ m ih => rw [← Nat.add_assoc, cnt_succ, cnt_succ, ih]; omega
def bCol (B : Int → Int) : Prop := ∀ t c, 0 ≤ c → c < kCols B t → ∃ r : Nat, (r : Int) < B 1 ∧ kOf B r 0 = t ∧ kOf B r 2 = c
def bUni (B : Int → Int) : Prop := (∀ r s : Nat, (r : Int) < B 1 → (s : Int) < B 1 → kOf B r 0 = kOf B s 0 → kOf B r 2 = kOf B s 2 → r = s) ∧ ∀ r : Nat, (r : Int) < B 1 → kOf B r 2 < kCols B (kOf B r 0)
def bRow (B : Int → Int) : Prop := (∀ t : Nat, t < 6 → kRows B t ≤ 20) ∧ ∀ x : Int, 100 * B 0 ≤ x → x < 600 → kCe B x < 0
/-- a value names a row -/
def bFk (B : Int → Int) : Prop := ∀ e, e < gR B → gRow B e → gVal B e ≠ -1 → 0 ≤ kCe B (gPar B e)
def bInv (B : Int → Int) : Prop := kWr B ∧ (∀ t, kCols B t ≤ 2) ∧ bCol B ∧ bUni B ∧ bRow B ∧ (0 ≤ B 5 ∧ B 5 ≤ 120)
theorem gEx_len (B : Int → Int) : ((gEx B).length : Int) = cnt 600 (fun n => decide (0 ≤ kCe B n)) := by
  unfold gEx cnt
  rw [← List.countP_eq_length_filter, List.countP_map]
  rfl
theorem gEx_sum (B : Int → Int) : ((gEx B).length : Int) = kRows B (0 : Nat) + kRows B (1 : Nat) + kRows B (2 : Nat) + kRows B (3 : Nat) + kRows B (4 : Nat) + kRows B (5 : Nat) := by
  rw [gEx_len, show (600 : Nat) = 100 + (100 + (100 + (100 + (100 + 100)))) from rfl, cnt_add, cnt_add, cnt_add, cnt_add, cnt_add]
  have e : ∀ t : Nat, kRows B t = cnt 100 (fun k => decide (0 ≤ kCe B ((100 * t + k : Nat) : Int))) := by
    intro t
    unfold kRows
    exact cnt_co fun k hk => by rw [show ((100 * t + k : Nat) : Int) = 100 * (t : Int) + k by omega]
  rw [e 0, e 1, e 2, e 3, e 4, e 5]
  have f0 : (fun n : Nat => decide (0 ≤ kCe B (n : Int))) = fun k : Nat => decide (0 ≤ kCe B ((100 * 0 + k : Nat) : Int)) := by
    funext k; rw [show 100 * 0 + k = k by omega]
  have g : ∀ a t : Nat, a = 100 * t → (fun k : Nat => decide (0 ≤ kCe B ((a + k : Nat) : Int))) = fun k : Nat => decide (0 ≤ kCe B ((100 * t + k : Nat) : Int)) := by
    intro a t h; rw [h]
  rw [← f0]
  rw [cnt_co (p := fun k => decide (0 ≤ kCe B ((100 + k : Nat) : Int))) (q := fun k => decide (0 ≤ kCe B ((100 * 1 + k : Nat) : Int))) (fun _ _ => rfl)]
  rw [cnt_co (p := fun k => decide (0 ≤ kCe B ((100 + (100 + k) : Nat) : Int))) (q := fun k => decide (0 ≤ kCe B ((100 * 2 + k : Nat) : Int))) (fun k _ => by rw [show 100 + (100 + k) = 100 * 2 + k by omega])]
  rw [cnt_co (p := fun k => decide (0 ≤ kCe B ((100 + (100 + (100 + k)) : Nat) : Int))) (q := fun k => decide (0 ≤ kCe B ((100 * 3 + k : Nat) : Int))) (fun k _ => by rw [show 100 + (100 + (100 + k)) = 100 * 3 + k by omega])]
  rw [cnt_co (p := fun k => decide (0 ≤ kCe B ((100 + (100 + (100 + (100 + k))) : Nat) : Int))) (q := fun k => decide (0 ≤ kCe B ((100 * 4 + k : Nat) : Int))) (fun k _ => by rw [show 100 + (100 + (100 + (100 + k))) = 100 * 4 + k by omega])]
  rw [cnt_co (p := fun k => decide (0 ≤ kCe B ((100 + (100 + (100 + (100 + (100 + k)))) : Nat) : Int))) (q := fun k => decide (0 ≤ kCe B ((100 * 5 + k : Nat) : Int))) (fun k _ => by rw [show 100 + (100 + (100 + (100 + (100 + k)))) = 100 * 5 + k by omega])]
  omega
theorem bInv.ok {B : Int → Int} (h : bInv B) : mOk B := by
  refine ⟨h.1, h.2.1, ?_⟩
  have s := gEx_sum B
  have r := h.2.2.2.2.1.1
  have := r 0 (by decide)
  have := r 1 (by decide)
  have := r 2 (by decide)
  have := r 3 (by decide)
  have := r 4 (by decide)
  have := r 5 (by decide)
  omega
theorem bFk_zero {B : Int → Int} (h1 : B 1 = 0) : bFk B := fun e he => by unfold gR at he; rw [h1] at he; exact absurd he (Nat.not_lt_zero _)
/-- the first block of all: nothing at all -/
theorem bInv_zero {B : Int → Int} (h0 : B 0 = 0) (h1 : B 1 = 0) (h5 : B 5 = 0) (hc : ∀ x, 0 ≤ x → x < 600 → kCe B x = -1) : bInv B := by
  have hcol : ∀ t, kCols B t = 0 := by
    intro t
    unfold kCols
    rw [h1]
    rfl
  refine ⟨⟨by omega, by omega, fun r h2 h3 => by omega, fun x h2 h3 => by rw [hc x h2 h3]; decide⟩, fun t => by rw [hcol]; decide, fun t c h2 h3 => by rw [hcol] at h3; omega, ⟨fun r s h2 _ _ _ => by omega, fun r h2 => by omega⟩, ⟨fun t ht => ?_, fun x h2 h3 => by rw [hc x (by omega) h3]; decide⟩, by omega⟩
  have : kRows B t = cnt 100 (fun _ => false) := by
    unfold kRows
    exact cnt_co fun k hk => by rw [hc _ (by omega) (by omega)]; rfl
  rw [this]
  decide
