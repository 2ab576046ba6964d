/-! texts: the law's own, which lie there from the start, and new ones; rows of bytes of both kinds -/
def oTx (Θ : mW) (a : Nat) : Option Nat := (List.range 9).find? (fun j => mwad Θ (90 + j) = a)
def oTb (Θ : mW) (a : Nat) : Option Nat := (List.range 9).find? (fun j => mwad Θ (110 + j) = a)
def rSv (Θ : mW) (h : mH) (a : Nat) : Option Nat := match rA Θ h 9 a 0 with
  | some v => some v
  | none => match oTx Θ a with
    | some j => some (mwad Θ (110 + j))
    | none => none
def rSc (Θ : mW) (h : mH) (a : Nat) : Option Int32 := match rI Θ h 9 a 1 with
  | some v => some v
  | none => match oTx Θ a with
    | some _ => some 0
    | none => none
/-- a row of bytes: its length and its letters -/
def rSB (Θ : mW) (h : mH) (q : Nat) : Option (Nat × (Nat → Int32)) := match gt Θ h q with
  | some (.inl (t, n, .inl f)) => if t = 4 then some (n, f) else none
  | some _ => none
  | none => match oTb Θ q with
    | some j => some ((lTx.getD j []).length, fun i => nI ((lTx.getD j []).getD i 0))
    | none => none
def aNs (Θ : mW) (h : mH) (q : Nat) : Option Int32 := bo (rSB Θ h q) (fun p => some (Int32.ofNat p.1))
def aRs (Θ : mW) (h : mH) (q : Nat) (x : Int32) : Option Int32 := bo (rSB Θ h q) (fun p => if ¬ (x < 0 ∨ p.1 ≤ x.toNatClampNeg) then some (p.2 x.toNatClampNeg) else none)
def cpBs (Θ : mW) (h : mH) (q0 : Nat) (sp : Int32) (q1 : Nat) (dp n : Int32) : Option mH := bo (rSB Θ h q0) (fun p => match gt Θ h q1 with
  | some (.inl (t1, n1, .inl g)) => if t1 = 4 ∧ (¬ sp < 0 ∧ ¬ dp < 0 ∧ ¬ n < 0) ∧ sp.toNatClampNeg + n.toNatClampNeg ≤ p.1 ∧ dp.toNatClampNeg + n.toNatClampNeg ≤ n1 ∧ (List.range n.toNatClampNeg).all (fun i => fits .byte (.int (p.2 (sp.toNatClampNeg + i)))) = true then some (pt Θ h q1 (aI 4 n1 (va_cpy p.2 g sp.toNatClampNeg dp.toNatClampNeg n.toNatClampNeg))) else none
  | _ => none)
def gS {ρ : Type} (Θ : mW) (h : mH) (a : Nat) (p : Option ρ) : Option ρ := match gt Θ h a with
  | some (.inr (c, _)) => if c = 9 then p else none
  | some _ => none
  | none => match oTx Θ a with
    | some _ => p
    | none => none
def aCl {ρ : Type} (Θ : mW) (h : mH) (t q : Nat) (F : Nat → mH → Option ρ) : Option ρ := match gt Θ h q with
  | some (.inl (t', n, .inl f)) => if t' = t ∧ (List.range n).all (fun i => fits .byte (.int (f i))) = true then al Θ h (aI t n f) F else none
  | _ => none
