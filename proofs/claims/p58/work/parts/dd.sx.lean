/-! the start: the old things by terms -/
def sKx : List Nat := [183, 199, 201, 227, 229, 231, 233, 235, 237]
def sTm (n : Nat) : Term := if n = 5 then .static "FloatingDock$Form" "OPEN" "LFloatingDock$Form;" else if n = 40 then .arg 0 else if n = 41 then .static "java/lang/Integer" "DigitOnes" "[B" else if n = 42 then .static "java/lang/Integer" "DigitTens" "[B" else if 110 ≤ n then .field (.string "FloatingDockLaw" (sKx.getD (n - 110) 0)) "java/lang/String" "value" "[B" else match mSR.find? (fun q => q.1 == n) with
  | some q => .string q.2.1 q.2.2.1
  | none => .arg 0
def sFL : List Cond := flatC (Jvm.Cond.and given_1 narrow_1)
def isEl (tm : Term) : Cond → Bool
  | .eq (.elem t _) (.int _) => decide (t = tm)
  | _ => false
theorem el_41 : sFL.filter (isEl (sTm 41)) = (List.range 100).map (fun j => Cond.eq (.elem (sTm 41) (.int (Int32.ofNat j))) (.int (nI (48 + j % 10)))) := by decide +kernel
theorem el_42 : sFL.filter (isEl (sTm 42)) = (List.range 100).map (fun j => Cond.eq (.elem (sTm 42) (.int (Int32.ofNat j))) (.int (nI (48 + j / 10)))) := by decide +kernel
