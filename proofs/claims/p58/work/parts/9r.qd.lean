/-! undo, save, restore; append, lineAt -/
section QD
variable {Θ : mW} {N f b : Nat} {c k : Int} {S S' S2 : Nat → Int → Int} {h h2 : mH} {tb : Int → Nat} {vp : Int → Prop} {bO : (Int → Int) → Prop} {D G : Nat → Int → Int} {V : Int → Int} {P : Nat → Prop} {y z : Nat}
theorem undR_0 (h4 : ¬ S 0 5 ≤ 0) {j : Int} : (undR S).2 0 j = if j = 5 then S 0 5 - 1 else if j = 13 then 0 else S 0 j := by
  unfold undR
  rw [if_neg h4]
  dsimp only
  rw [cpy_o (by decide), up2_at]
  by_cases z : j = 5
  · rw [if_pos ⟨rfl, z⟩, if_pos z]
  · rw [if_neg (by omega), if_neg z, T13, up2_at]
    by_cases y : j = 13
    · rw [if_pos ⟨rfl, y⟩, if_pos y]
    · rw [if_neg (by omega), if_neg y]
theorem undR_r (h4 : ¬ S 0 5 ≤ 0) {i : Nat} (i0 : i ≠ 0) (i3 : i ≠ 1) : (undR S).2 i = S i := by
  unfold undR
  rw [if_neg h4]
  funext j
  dsimp only
  rw [cpy_o i3, up2_ne i0, T13, up2_ne i0]
theorem savR_0 {j : Int} : (savR S).2 0 j = if j = 4 then 1 else if j = 13 then 0 else S 0 j := by
  unfold savR
  dsimp only
  rw [up2_at]
  by_cases z : j = 4
  · rw [if_pos ⟨rfl, z⟩, if_pos z]
  · rw [if_neg (by omega), if_neg z, cpy_o (by decide), T13, up2_at]
    by_cases y : j = 13
    · rw [if_pos ⟨rfl, y⟩, if_pos y]
    · rw [if_neg (by omega), if_neg y]
theorem savR_r {i : Nat} (i0 : i ≠ 0) (i3 : i ≠ 3) : (savR S).2 i = S i := by
  unfold savR
  funext j
  dsimp only
  rw [up2_ne i0, cpy_o i3, T13, up2_ne i0]
theorem rstR_0 (n4 : ¬ S 0 4 = 0) {j : Int} : (rstR S).2 0 j = if j = 5 then 0 else if j = 13 then 0 else S 0 j := by
  unfold rstR
  rw [if_neg n4]
  dsimp only
  rw [up2_at]
  by_cases z : j = 5
  · rw [if_pos ⟨rfl, z⟩, if_pos z]
  · rw [if_neg (by omega), if_neg z, cpy_o (by decide), T13, up2_at]
    by_cases y : j = 13
    · rw [if_pos ⟨rfl, y⟩, if_pos y]
    · rw [if_neg (by omega), if_neg y]
theorem rstR_r (n4 : ¬ S 0 4 = 0) {i : Nat} (i0 : i ≠ 0) (i3 : i ≠ 1) : (rstR S).2 i = S i := by
  unfold rstR
  rw [if_neg n4]
  funext j
  dsimp only
  rw [up2_ne i0, cpy_o i3, T13, up2_ne i0]
theorem zw_sb {q v : Nat} {n : Int} {β : Int → Int} (hs : SBs Θ q v n β h) : v < mwB Θ + h.length ∧ mwB Θ ≤ v := by
  obtain ⟨B, A, cap, -, h2, -⟩ := hs
  have := h2.1
  exact ⟨by have := this.2; simp at this; omega, this.1⟩
end QD
