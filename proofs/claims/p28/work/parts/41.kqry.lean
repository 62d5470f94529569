-- THE REFERENCE: what it is asked, without a deletion
section KY
variable {X : Nat × (Nat → Int)} {mi : mm_M} {h : mm_H} {Q : Option mm_V → mm_S → Prop} {b : Int}
def kGiveR (B : Int → Int) (t : Int) : Int := if 0 ≤ t ∧ t < B 0 then kRows B t else -2
def kRank (B : Int → Int) (t : Int) (n : Nat) : Int := cnt n (fun k => decide (kIsRow B t k))
def kKeyP (B : Int → Int) (t r : Int) (k : Nat) : Bool := decide (kIsRow B t k ∧ kRank B t k = r)
def kKeyAt (B : Int → Int) (t r : Int) : Int := if ¬ (0 ≤ t ∧ t < B 0) then -2 else if r < 0 then -3 else match fnx (kKeyP B t r) 100 0 with
  | some k => k
  | none => -9
def kGiveV (B : Int → Int) (t k c : Int) : Int := if kIsRow B t k ∧ 0 ≤ c ∧ c ≤ kCols B t - 1 then kV B (100 * t + k) c else -2
def kGiveC (B : Int → Int) (r k : Int) : Int := if (0 ≤ r ∧ r < B 1) ∧ kIsRow B (kOf B r 1) k then cnt 100 (fun j => decide (kIsCh B r j (100 * kOf B r 1 + k))) else -2
def kGiveF (B : Int → Int) (r w : Int) : Int := if ¬ (0 ≤ r ∧ r < B 1) then -2 else if 0 ≤ w ∧ w ≤ 5 then kOf B r w else -3
def kGiveD (B : Int → Int) (i : Int) : Int := if i < 0 then -3 else if i < B 5 then B (78 + i) else -9
def kNulls (B : Int → Int) : Int := cnt (gR B) (fun e => decide (gRow B e ∧ gVal B e = -1))
end KY
