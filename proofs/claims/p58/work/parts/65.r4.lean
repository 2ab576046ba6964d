/-! the reference's changes, on -/
section R4
variable {Θ : mW} {N m : Nat} {S : Nat → Int → Int} {h : mH}
/-- enter -/
def entR (S : Nat → Int → Int) (id p : Int) : Int × (Nat → Int → Int) :=
  let w := fnd (S 1) id (mny (S 1))
  if w = -1 then (0, T13 S 1)
  else if ¬ ((0 ≤ p ∧ p ≤ 59) ∧ p ≤ 60 - fd (S 1) w 1) then (0, T13 S 2)
  else if ¬ (fd (S 1) w 4 = -1 ∧ S 1 2 = 1) then (0, T13 S 3)
  else if S 1 1 < fd (S 1) w 2 + 2 then (0, up2 (T13 S 4) 0 8 1)
  else if ¬ fre (S 1) p (fd (S 1) w 1).toNat = 1 then (0, up2 (T13 S 4) 0 8 2)
  else (dct (up1 (up1 (S 1) (8 + 9 * w + 4) p) (8 + 9 * w + 5) 0) (mny (S 1)), up2 (up2 (T13 S 0) 1 (8 + 9 * w + 4) p) 1 (8 + 9 * w + 5) 0)
/-- leave -/
def leaR (S : Nat → Int → Int) (id : Int) : Int × (Nat → Int → Int) :=
  let w := fnd (S 1) id (mny (S 1))
  if w = -1 then (0, T13 S 1)
  else if ¬ (fd (S 1) w 4 ≠ -1 ∧ S 1 2 = 1) then (0, T13 S 2)
  else if S 1 1 < fd (S 1) w 2 then (0, up2 (T13 S 3) 0 8 3)
  else if fd (S 1) w 8 ≠ 0 then (0, up2 (T13 S 3) 0 8 4)
  else (dct (up1 (up1 (S 1) (8 + 9 * w + 4) (-1)) (8 + 9 * w + 5) 0) (mny (S 1)), up2 (up2 (T13 S 0) 1 (8 + 9 * w + 4) (-1)) 1 (8 + 9 * w + 5) 0)
/-- setCleaning -/
def cleR (S : Nat → Int → Int) (id c : Int) : Int × (Nat → Int → Int) :=
  let w := fnd (S 1) id (mny (S 1))
  if w = -1 then (0, T13 S 1)
  else if fd (S 1) w 4 = -1 then (0, T13 S 2)
  else (fd (S 1) w 5, up2 (T13 S 0) 1 (8 + 9 * w + 5) c)
/-- pay -/
def payR (S : Nat → Int → Int) (id c : Int) : Int × (Nat → Int → Int) :=
  let w := fnd (S 1) id (mny (S 1))
  if w = -1 then (0, T13 S 1)
  else if ¬ (1 ≤ c ∧ c ≤ 999) then (0, T13 S 2)
  else if fd (S 1) w 8 < c then (0, T13 S 3)
  else (fd (S 1) w 8 - c, up2 (up2 (T13 S 0) 1 (8 + 9 * w + 8) (fd (S 1) w 8 - c)) 1 7 (S 1 7 + c))
/-- setGate -/
def gatR (S : Nat → Int → Int) (o : Int) : Int × (Nat → Int → Int) :=
  if ¬ (o = 0 ∨ (-20 ≤ S 1 1 - sea (S 1 0) ∧ S 1 1 - sea (S 1 0) ≤ 20)) then (S 1 2, T13 S 1)
  else (S 1 2, up2 (T13 S 0) 1 2 o)
/-- setPump -/
def pumR (S : Nat → Int → Int) (r : Int) : Int × (Nat → Int → Int) :=
  if ¬ (-30 ≤ r ∧ r ≤ 30) then (S 1 3, T13 S 1) else (S 1 3, up2 (T13 S 0) 1 3 r)
/-- placeBlock, removeBlock -/
def layR (S : Nat → Int → Int) (p : Int) : Int × (Nat → Int → Int) :=
  if ¬ (0 ≤ p ∧ p ≤ 59) then (0, T13 S 1)
  else if ¬ (blk (S 1) 60 < 20 ∧ ¬ S 1 (80 + p) = 1) then (0, T13 S 2)
  else if ¬ (S 1 1 ≤ 30 ∧ at' (S 1) p = -1) then (0, T13 S 3)
  else (blk (up1 (S 1) (80 + p) 1) 60, up2 (T13 S 0) 1 (80 + p) 1)
def takR (S : Nat → Int → Int) (p : Int) : Int × (Nat → Int → Int) :=
  if ¬ (0 ≤ p ∧ p ≤ 59) then (0, T13 S 1)
  else if ¬ S 1 (80 + p) = 1 then (0, T13 S 2)
  else if ¬ (S 1 1 ≤ 30 ∧ at' (S 1) p = -1) then (0, T13 S 3)
  else (blk (up1 (S 1) (80 + p) 0) 60, up2 (T13 S 0) 1 (80 + p) 0)
end R4
