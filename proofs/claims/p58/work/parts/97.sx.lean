/-! texts that grow: what is asked of them -/
section SX
variable {Θ : mW} {q v : Nat} {n : Int} {τ : Int → Int} {h : mH}
theorem sb_O (hs : SBs Θ q v n τ h) {ρ : Type} {p : Option ρ} : gO Θ h 8 q p = p := by
  obtain ⟨B, A, cap, b1, b2, b3, b4, b5, b6, b7⟩ := hs
  exact b_O8 b1
theorem sb_0 (hs : SBs Θ q v n τ h) : 0 ≤ n := by
  obtain ⟨B, A, cap, b1, b2, b3, b4, b5, b6, b7⟩ := hs
  omega
theorem sb_rng (hs : SBs Θ q v n τ h) {j : Int} (j0 : 0 ≤ j) (j1 : j < n) : 0 ≤ τ j ∧ τ j < 128 := by
  obtain ⟨B, A, cap, b1, b2, b3, b4, b5, b6, b7⟩ := hs
  rw [← b7 j j0 j1]
  exact b6 j j0 (by omega)
theorem sb_nx {h2 : mH} {P : Nat → Prop} {c z : Nat} (hs : SBs Θ q v n τ h) (a : Nx Θ h h2 P c z) (hq : ¬ P q) (hv : ¬ P v) : SBs Θ q v n τ h2 := by
  obtain ⟨B, A, cap, b1, b2, b3, b4, b5, b6, b7⟩ := hs
  refine ⟨B, A, cap, b1.nx a (fun x x1 x2 => ?_), b2.nx a (fun x x1 x2 => ?_), b3, b4, b5, b6, b7⟩
  · have : x = q := by simp [shB] at x2; omega
    rw [this]; exact hq
  · have : x = v := by simp at x2; omega
    rw [this]; exact hv
end SX
