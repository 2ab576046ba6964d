/-! the changes, class and reference side by side -/
theorem bo_bx {α β ρ : Type} (o : Option α) (q : α → Option ((β ⊕ Nat) × mH)) (K : β → mH → Option ρ) (X : Nat → mH → Option ρ) : bo o (fun v => bx (q v) K X) = bx (bo o q) K X := by cases o <;> rfl
theorem gO_bx {Θ : mW} {h : mH} {n a : Nat} {β ρ : Type} (q : Option ((β ⊕ Nat) × mH)) (K : β → mH → Option ρ) (X : Nat → mH → Option ρ) : gO Θ h n a (bx q K X) = bx (gO Θ h n a q) K X := by
  unfold gO
  cases gt Θ h a with
  | none => rfl
  | some e =>
    cases e with
    | inl e => rfl
    | inr e =>
      obtain ⟨ci, fs⟩ := e
      dsimp only
      split <;> rfl
def tbl (l : List Nat) (t : Int) : Nat := l.getD (t.toNat - 1) 0
section IN
variable {Θ : mW} {N f m b : Nat} {c : Int} {S : Nat → Int → Int} {h : mH} {bO : (Int → Int) → Prop} {D : Nat → Int → Int} {V : Int → Int} {tb : Int → Nat} {vp : Int → Prop} {pc : Option ((Int32 ⊕ Nat) × mH)} {pr : mH → Option (Int32 × mH)}
theorem ex_hd (hs : HB Θ shD b D h) {n : Nat} : HD Θ b D (h ++ [oB n []]) = h ++ [oB n []] := (BK_app hs.1).symm.trans (by rw [hs.2])
theorem T13_o {a : Nat} {v : Int} (ha : a ≠ 0) : T13 S v a = S a := up2_row ha
theorem T13_j {v j : Int} (hj : j ≠ 13) : T13 S v 0 j = S 0 j := up2_nj hj
theorem Sm.t {v : Int} : Sm S (T13 S v) := ⟨T13_j (by decide), T13_j (by decide), T13_j (by decide), T13_j (by decide), T13_j (by decide), T13_o (by decide), T13_o (by decide), T13_o (by decide)⟩
theorem up2_ur0 {k v : Int} : up2 (T13 S 0) 1 k v = ur (T13 S 0) (up1 (S 1) k v) := by
  funext a
  unfold ur
  by_cases z : a = 1
  · rw [z, if_pos rfl, up2_1, T13_1]
  · rw [if_neg z, up2_row z]
theorem add_ur (h4 : 0 ≤ S 1 4) {l d t : Int} : up2 (up2 (up2 (up2 (up2 (up2 (up2 (zer (T13 S 0) (8 + 9 * S 1 4) 9) 1 (8 + 9 * S 1 4 + 0) (S 1 5)) 1 (8 + 9 * S 1 4 + 1) l) 1 (8 + 9 * S 1 4 + 2) d) 1 (8 + 9 * S 1 4 + 3) t) 1 (8 + 9 * S 1 4 + 4) (-1)) 1 4 (S 1 4 + 1)) 1 5 (S 1 5 + 1) = ur (T13 S 0) (addV (S 1) l d t) := by
  funext a j
  unfold ur
  by_cases z : a = 1
  · subst z
    rw [if_pos rfl]
    unfold addV
    simp only [up2_at, zer_at, T13_1, true_and]
    repeat' split
    all_goals first | rfl | omega
  · rw [if_neg z, up2_ne z, up2_ne z, up2_ne z, up2_ne z, up2_ne z, up2_ne z, up2_ne z, zer_at, if_neg (by omega)]
theorem rA10 (hs : HB Θ shD b D h) : rA Θ h 1 b 0 = some (b + 1) := HB.xA hs (i := 0) rfl rfl
theorem rA11 (hs : HB Θ shD b D h) : rA Θ h 1 b 1 = some (b + 11) := HB.xA hs (i := 0) rfl rfl
theorem gO1 (hs : HB Θ shD b D h) {ρ : Type} {p : Option ρ} : gO Θ h 1 b p = p := HB.xO hs (i := 0) rfl
theorem gO2 (hs : HB Θ shD b D h) {ρ : Type} {p : Option ρ} : gO Θ h 2 (b + 1) p = p := HB.xO hs (i := 1) rfl
theorem gO4 (hs : HB Θ shD b D h) {ρ : Type} {p : Option ρ} : gO Θ h 4 (b + 11) p = p := HB.xO hs (i := 11) rfl
abbrev int' (x : Int) : Prop := -2147483648 ≤ x ∧ x < 2147483648
noncomputable def pcA (Θ : mW) (N f : Nat) (l d t : Int32) (h : mH) : Option ((Int32 ⊕ Nat) × mH) := bo (rA Θ h 0 f 0) (fun v3 => bo (rA Θ h 1 v3 0) (fun v4 => gO Θ h 2 v4 (P_L_register Θ N h v4 l d t)))
noncomputable def pcR (Θ : mW) (N f : Nat) (i : Int32) (h : mH) : Option ((Int32 ⊕ Nat) × mH) := bo (rA Θ h 0 f 0) (fun v3 => bo (rA Θ h 1 v3 0) (fun v4 => gO Θ h 2 v4 (P_L_strike Θ N h v4 i)))
noncomputable def pcC (Θ : mW) (N f : Nat) (i x : Int32) (h : mH) : Option ((Int32 ⊕ Nat) × mH) := bo (rA Θ h 0 f 0) (fun v3 => gO Θ h 1 v3 (P_D_switchCleaning Θ N h v3 i x))
noncomputable def pcG (Θ : mW) (N f : Nat) (x : Int32) (h : mH) : Option ((Int32 ⊕ Nat) × mH) := bo (rA Θ h 0 f 0) (fun v3 => gO Θ h 1 v3 (P_D_moveGate Θ N h v3 x))
noncomputable def pcP (Θ : mW) (N f : Nat) (x : Int32) (h : mH) : Option ((Int32 ⊕ Nat) × mH) := bo (rA Θ h 0 f 0) (fun v3 => gO Θ h 1 v3 (P_D_changeRate Θ N h v3 x))
noncomputable def pcW (Θ : mW) (N f : Nat) (x : Int32) (h : mH) : Option ((Int32 ⊕ Nat) × mH) := bo (rA Θ h 0 f 0) (fun v3 => gO Θ h 1 v3 (P_D_letPass Θ N h v3 x))
noncomputable def pcB (Θ : mW) (N f : Nat) (x : Int32) (h : mH) : Option ((Int32 ⊕ Nat) × mH) := bo (rA Θ h 0 f 0) (fun v3 => gO Θ h 1 v3 (P_D_addBlock Θ N h v3 x))
noncomputable def pcU (Θ : mW) (N f : Nat) (x : Int32) (h : mH) : Option ((Int32 ⊕ Nat) × mH) := bo (rA Θ h 0 f 0) (fun v3 => gO Θ h 1 v3 (P_D_takeBlock Θ N h v3 x))
noncomputable def pcY (Θ : mW) (N f : Nat) (i x : Int32) (h : mH) : Option ((Int32 ⊕ Nat) × mH) := bo (rA Θ h 0 f 0) (fun v3 => gO Θ h 1 v3 (P_D_takeCoins Θ N h v3 i x))
end IN
