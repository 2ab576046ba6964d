/-! blocks, the history, undo, save, restore of the reference -/
section R5
variable {Θ : mW} {N m : Nat} {S : Nat → Int → Int} {h : mH}
/-! the history -/
def hsh (S : Nat → Int → Int) (k : Int) : Nat → Int → Int := fun a j => if a = 4 ∧ 0 ≤ j ∧ j < k then S 4 (j + 140) else S a j
theorem hsh_at {k j : Int} {a : Nat} : hsh S k a j = if a = 4 ∧ 0 ≤ j ∧ j < k then S 4 (j + 140) else S a j := rfl
theorem hsh_0 : hsh S 0 = S := by
  funext a j
  rw [hsh_at, if_neg (by omega)]
theorem hsh_S {k : Int} (hk : 0 ≤ k) : up2 (hsh S k) 4 k (S 4 (k + 140)) = hsh S (k + 1) := by
  funext a j
  rw [up2_at, hsh_at, hsh_at]
  by_cases c : a = 4 ∧ j = k
  · rw [if_pos c, if_pos (by omega), c.2]
  · rw [if_neg c]
    by_cases d : a = 4 ∧ 0 ≤ j ∧ j < k
    · rw [if_pos d, if_pos (by omega)]
    · rw [if_neg d, if_neg (by omega)]
def remR (S : Nat → Int → Int) : Nat → Int → Int :=
  if S 0 5 = 8 then up2 (cpy (up2 (hsh S 980) 0 5 7) 2 0 4 980 140) 0 5 8
  else up2 (cpy S 2 0 4 (S 0 5 * 140) 140) 0 5 (S 0 5 + 1)
theorem cpy_o {f t i : Nat} {a b n j : Int} (h : i ≠ t) : cpy S f a t b n i j = S i j := by rw [cpy_at, if_neg (by omega)]
theorem cpy_r {f t i : Nat} {a b n : Int} (h : i ≠ t) : cpy S f a t b n i = S i := funext fun j => cpy_o h
def endR (q : Int × (Nat → Int → Int)) : Int × (Nat → Int → Int) :=
  if q.2 0 13 = 0 then (q.1, remR q.2) else (0, cpy q.2 2 0 1 0 140)
def undR (S : Nat → Int → Int) : Int × (Nat → Int → Int) :=
  if S 0 5 ≤ 0 then (0, T13 S 1) else (S 0 5 - 1, cpy (up2 (T13 S 0) 0 5 (S 0 5 - 1)) 4 ((S 0 5 - 1) * 140) 1 0 140)
def savR (S : Nat → Int → Int) : Int × (Nat → Int → Int) := (S 1 4, up2 (cpy (T13 S 0) 1 0 3 0 140) 0 4 1)
def rstR (S : Nat → Int → Int) : Int × (Nat → Int → Int) :=
  if S 0 4 = 0 then (0, T13 S 1) else (S 3 4, up2 (cpy (T13 S 0) 3 0 1 0 140) 0 5 0)
end R5
