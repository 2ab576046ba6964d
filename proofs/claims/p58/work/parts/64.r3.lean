/-! the reference's changes (but for the hours) -/
theorem OKV.up {V : Int → Int} {k v : Int} (h : OKV V) (hk : k ≠ 4) (h1 : -100000000 ≤ v) (h2 : v ≤ 100000000) : OKV (up1 V k v) := by
  refine ⟨fun j => ?_, ?_⟩
  · unfold up1
    split
    · omega
    · exact h.1 j
  · unfold up1
    rw [if_neg (by omega)]
    exact h.2
theorem up2_1 {S : Nat → Int → Int} {k v : Int} : up2 S 1 k v 1 = up1 (S 1) k v := by unfold up2; rw [if_pos rfl]
theorem up1_at {V : Int → Int} {k v j : Int} : up1 V k v j = if j = k then v else V j := rfl
theorem up1_nj {V : Int → Int} {k v j : Int} (h : j ≠ k) : up1 V k v j = V j := by rw [up1_at, if_neg h]
theorem up1_eq {V : Int → Int} {k v : Int} : up1 V k v k = v := by rw [up1_at, if_pos rfl]
section R3
variable {Θ : mW} {N m : Nat} {S : Nat → Int → Int} {h : mH}
/-- thrown -/
def T13 (S : Nat → Int → Int) (v : Int) : Nat → Int → Int := up2 S 0 13 v
theorem T13_1 {v : Int} : T13 S v 1 = S 1 := up2_row (by omega)
theorem T13_2 {v w : Int} : T13 (T13 S v) w = T13 S w := up2_2
theorem T13_t {v : Int} : T13 S v 0 13 = v := up2_eq
def zer (S : Nat → Int → Int) (b n : Int) : Nat → Int → Int := fun a j => if a = 1 ∧ b ≤ j ∧ j < b + n then 0 else S a j
theorem zer_at {b n j : Int} {a : Nat} : zer S b n a j = if a = 1 ∧ b ≤ j ∧ j < b + n then 0 else S a j := rfl
theorem zer_0 {b : Int} : zer S b 0 = S := by
  funext a j
  rw [zer_at, if_neg (by omega)]
theorem zer_S {b n : Int} (hn : 0 ≤ n) : up2 (zer S b n) 1 (b + n) 0 = zer S b (n + 1) := by
  funext a j
  rw [up2_at, zer_at, zer_at]
  by_cases c : a = 1 ∧ j = b + n
  · rw [if_pos c, if_pos (by omega)]
  · rw [if_neg c]
    by_cases d : a = 1 ∧ b ≤ j ∧ j < b + n
    · rw [if_pos d, if_pos (by omega)]
    · rw [if_neg d, if_neg (by omega)]
/-- addShip -/
def addR (S : Nat → Int → Int) (l d t : Int) : Int × (Nat → Int → Int) :=
  if ¬ ((5 ≤ l ∧ l ≤ 30) ∧ (5 ≤ d ∧ d ≤ 80) ∧ (0 ≤ t ∧ t ≤ 99)) then (0, T13 S 1)
  else if 8 ≤ S 1 4 then (0, T13 S 2)
  else (S 1 5, up2 (up2 (up2 (up2 (up2 (up2 (up2 (zer (T13 S 0) (8 + 9 * S 1 4) 9) 1 (8 + 9 * S 1 4 + 0) (S 1 5)) 1 (8 + 9 * S 1 4 + 1) l) 1 (8 + 9 * S 1 4 + 2) d) 1 (8 + 9 * S 1 4 + 3) t) 1 (8 + 9 * S 1 4 + 4) (-1)) 1 4 (S 1 4 + 1)) 1 5 (S 1 5 + 1))
/-- the rows behind move on -/
def shf (V : Int → Int) (b k : Int) : Int → Int := fun j => if b ≤ j ∧ j < k then V (j + 9) else V j
def ur (S : Nat → Int → Int) (V : Int → Int) : Nat → Int → Int := fun a => if a = 1 then V else S a
theorem ur_1 {V : Int → Int} : ur S V 1 = V := rfl
theorem ur_self : ur S (S 1) = S := by
  funext a
  unfold ur
  split
  · rename_i e; rw [e]
  · rfl
theorem up2_ur {V : Int → Int} {k v : Int} : up2 (ur S V) 1 k v = ur S (up1 V k v) := by
  funext a
  unfold up2 ur
  by_cases c : a = 1
  · rw [if_pos c, if_pos c, if_pos rfl]
  · rw [if_neg c, if_neg c, if_neg c]
theorem shf_S {V : Int → Int} {b k : Int} (hk : b ≤ k) : up1 (shf V b k) k (V (k + 9)) = shf V b (k + 1) := by
  funext j
  unfold up1 shf
  by_cases c : j = k
  · rw [if_pos c, if_pos (by omega), c]
  · rw [if_neg c]
    by_cases d : b ≤ j ∧ j < k
    · rw [if_pos d, if_pos (by omega)]
    · rw [if_neg d, if_neg (by omega)]
/-- removeShip -/
def rmvR (S : Nat → Int → Int) (id : Int) : Int × (Nat → Int → Int) :=
  if fnd (S 1) id (mny (S 1)) = -1 then (0, T13 S 1)
  else if ¬ (fd (S 1) (fnd (S 1) id (mny (S 1))) 4 = -1 ∧ fd (S 1) (fnd (S 1) id (mny (S 1))) 8 = 0) then (0, T13 S 2)
  else (fd (S 1) (fnd (S 1) id (mny (S 1))) 3, up2 (ur (T13 S 0) (shf (S 1) (8 + 9 * fnd (S 1) id (mny (S 1))) 71)) 1 4 (S 1 4 - 1))
theorem fnd_rng (hV : OKV (S 1)) {id : Int} : -1 ≤ fnd (S 1) id (mny (S 1)) ∧ fnd (S 1) id (mny (S 1)) ≤ 7 ∧ fnd (S 1) id (mny (S 1)) < S 1 4 ∨ fnd (S 1) id (mny (S 1)) = -1 := by
  have hm := hV.2
  have := fnd_le (V := S 1) (id := id) (mny (S 1))
  unfold mny at *
  omega
end R3
