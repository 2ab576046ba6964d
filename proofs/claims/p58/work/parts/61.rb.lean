/-! the reference: its block and what is read and written of it -/
section RI
variable {Θ : mW} {m : Nat} {S : Nat → Int → Int} {h : mH}
theorem up2_ne {a i : Nat} {k v j : Int} (ha : a ≠ i) : up2 S i k v a j = S a j := by unfold up2; rw [if_neg ha]
theorem up2_eq {i : Nat} {k v : Int} : up2 S i k v i k = v := by unfold up2 up1; rw [if_pos rfl, if_pos rfl]
theorem up2_nj {i : Nat} {k v j : Int} (hj : j ≠ k) : up2 S i k v i j = S i j := by unfold up2 up1; rw [if_pos rfl, if_neg hj]
theorem up2_row {i a : Nat} {k v : Int} (ha : a ≠ i) : up2 S i k v a = S a := by unfold up2; rw [if_neg ha]
theorem up2_at {a i : Nat} {k v j : Int} : up2 S i k v a j = if a = i ∧ j = k then v else S a j := by
  by_cases ha : a = i
  · by_cases hj : j = k
    · rw [if_pos ⟨ha, hj⟩, ha, hj, up2_eq]
    · rw [if_neg (by omega), ha, up2_nj hj]
  · rw [if_neg (by omega), up2_ne ha]
theorem up2_2 {i : Nat} {k v w : Int} : up2 (up2 S i k v) i k w = up2 S i k w := by
  funext a j
  rw [up2_at, up2_at, up2_at]
  by_cases c : a = i ∧ j = k
  · rw [if_pos c, if_pos c]
  · rw [if_neg c, if_neg c, if_neg c]
end RI
