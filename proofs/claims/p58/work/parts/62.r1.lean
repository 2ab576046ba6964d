/-! the reference's small methods -/
section R1
variable {Θ : mW} {N m : Nat} {S : Nat → Int → Int} {h : mH}
def thr (a b c d : Int) : Int := if a = 0 then 1 else if b = 0 then 2 else if c = 0 then 3 else if d = 0 then 4 else 0
/-! copies -/
def cpy (S : Nat → Int → Int) (f : Nat) (a : Int) (t : Nat) (b n : Int) : Nat → Int → Int := fun i j => if i = t ∧ b ≤ j ∧ j < b + n then S f (a + (j - b)) else S i j
theorem cpy_at {f t i : Nat} {a b n j : Int} : cpy S f a t b n i j = if i = t ∧ b ≤ j ∧ j < b + n then S f (a + (j - b)) else S i j := rfl
theorem cpy_0 {f t : Nat} {a b : Int} : cpy S f a t b 0 = S := by
  funext i j
  rw [cpy_at, if_neg (by omega)]
theorem cpy_S {f t : Nat} {a b n : Int} (hft : f ≠ t) (hn : 0 ≤ n) : up2 (cpy S f a t b n) t (b + n) (S f (a + n)) = cpy S f a t b (n + 1) := by
  funext i j
  rw [up2_at, cpy_at, cpy_at]
  by_cases hj : i = t ∧ j = b + n
  · rw [if_pos hj, if_pos (by omega), show j - b = n by omega]
  · rw [if_neg hj]
    by_cases c : i = t ∧ b ≤ j ∧ j < b + n
    · rw [if_pos c, if_pos (by omega)]
    · rw [if_neg c, if_neg (by omega)]
theorem cpy_f {f t : Nat} {a b n j : Int} (hft : f ≠ t) : cpy S f a t b n f j = S f j := by
  rw [cpy_at, if_neg (by omega)]
/-- the length of an array of the reference -/
def lenR (i : Nat) : Int := match i with
  | 1 | 2 | 3 => 140
  | 4 => 1120
  | 5 => 60
  | 6 => 80
  | 8 => 120
  | _ => 0
end R1
