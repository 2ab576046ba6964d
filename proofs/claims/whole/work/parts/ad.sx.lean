/-! the start: the old things by terms -/
def sNm : List String := ["SHIP", "ENTER", "LEAVE", "CLEAN", "STOP", "OPEN", "CLOSE", "PUMP", "PASS", "BLOCK", "UNBLOCK", "PAY"]
def sKx : List Nat := [64, 70, 73, 76, 79, 82, 85, 88, 91, 94, 97, 100]
def sTm (n : Nat) : Term := if n < 12 then .static "FloatingDock$Form" (sNm.getD n "") "LFloatingDock$Form;" else if n = 12 then .static "FloatingDock$Form" "ALL" "[LFloatingDock$Form;" else if n = 13 then .static "FloatingDock$1" "$SwitchMap$FloatingDock$Form" "[I" else if n < 26 then .string "FloatingDock$Form" (sKx.getD (n - 14) 0) else if n < 38 then .field (.string "FloatingDock$Form" (sKx.getD (n - 26) 0)) "java/lang/String" "value" "[B" else if n = 38 then .string "FloatingDockModel" 253 else if n = 39 then .field (.string "FloatingDockModel" 253) "java/lang/String" "value" "[B" else if n = 40 then .arg 0 else if n = 41 then .static "java/lang/Integer" "DigitOnes" "[B" else if n = 42 then .static "java/lang/Integer" "DigitTens" "[B" else match mSR.find? (fun q => q.1 == n) with
  | some q => .string q.2.1 q.2.2.1
  | none => .arg 0
def sFL : List Cond := flatC (Jvm.Cond.and given_1 narrow_1)
def isEl (tm : Term) : Cond → Bool
  | .eq (.elem t _) (.int _) => decide (t = tm)
  | _ => false
theorem el_13 : sFL.filter (isEl (sTm 13)) = (List.range 12).map (fun j => Cond.eq (.elem (sTm 13) (.int (Int32.ofNat j))) (.int (nI (j + 1)))) := by decide +kernel
theorem el_41 : sFL.filter (isEl (sTm 41)) = (List.range 100).map (fun j => Cond.eq (.elem (sTm 41) (.int (Int32.ofNat j))) (.int (nI (48 + j % 10)))) := by decide +kernel
