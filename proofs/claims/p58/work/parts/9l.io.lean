/-! letting in and out, class and reference side by side -/
section IO
variable {Θ : mW} {N f m b : Nat} {c : Int} {S : Nat → Int → Int} {h : mH} {bO : (Int → Int) → Prop} {D : Nat → Int → Int} {V : Int → Int} {tb : Int → Nat} {vp : Int → Prop} {pc : Option ((Int32 ⊕ Nat) × mH)} {pr : mH → Option (Int32 × mH)}
noncomputable def pcE (Θ : mW) (N f : Nat) (i x : Int32) (h : mH) : Option ((Int32 ⊕ Nat) × mH) := gO Θ h 0 f (P_F_letIn Θ N h f i x)
noncomputable def pcL (Θ : mW) (N f : Nat) (i : Int32) (h : mH) : Option ((Int32 ⊕ Nat) × mH) := gO Θ h 0 f (P_F_letOut Θ N h f i)
end IO
