/-! the start: words of statics, the elements of ALL -/
section SJ
theorem ar_12 : Cond.arrayOf (sTm 12) (.object "FloatingDock$Form") ∈ sFL := by decide +kernel
theorem ln_12 : Cond.eq (.length (sTm 12)) (.int (Int32.ofNat 12)) ∈ sFL := by decide +kernel
def isElT (tm : Term) : Cond → Bool
  | .eq (.elem t _) _ => decide (t = tm)
  | _ => false
theorem el_12 : sFL.filter (isElT (sTm 12)) = (List.range 12).map (fun j => Cond.eq (.elem (sTm 12) (.int (Int32.ofNat j))) (sTm j)) := by decide +kernel
theorem cs_1 : Cond.eq (.static "java/lang/String" "COMPACT_STRINGS" "Z") (.int 1) ∈ sFL := by decide +kernel
theorem sio_1 : Cond.isRef (.static "jdk/internal/util/Preconditions" "SIOOBE_FORMATTER" "Ljava/util/function/BiFunction;") ∈ sFL := by decide +kernel
theorem ly_0 : Cond.laysStatic "java/lang/String" "COMPACT_STRINGS" "Z" ∈ lw_tbl := by decide +kernel
theorem ly_1 : Cond.laysStatic "FloatingDock$Form" "OPEN" "LFloatingDock$Form;" ∈ lw_tbl := by decide +kernel
theorem ly_2 : Cond.laysStatic "FloatingDock$Form" "ALL" "[LFloatingDock$Form;" ∈ lw_tbl := by decide +kernel
theorem ly_3 : Cond.laysStatic "FloatingDock$1" "$SwitchMap$FloatingDock$Form" "[I" ∈ lw_tbl := by decide +kernel
theorem ly_4 : Cond.laysStatic "jdk/internal/util/Preconditions" "SIOOBE_FORMATTER" "Ljava/util/function/BiFunction;" ∈ lw_tbl := by decide +kernel
theorem ly_5 : Cond.laysStatic "java/lang/Integer" "DigitOnes" "[B" ∈ lw_tbl := by decide +kernel
theorem ly_6 : Cond.laysStatic "java/lang/Integer" "DigitTens" "[B" ∈ lw_tbl := by decide +kernel
theorem ini_0 : Cond.initialized "java/lang/String" ∈ lw_tbl := by decide +kernel
theorem ini_1 : Cond.initialized "FloatingDock$Form" ∈ lw_tbl := by decide +kernel
theorem ini_2 : Cond.initialized "FloatingDock$1" ∈ lw_tbl := by decide +kernel
theorem ini_3 : Cond.initialized "jdk/internal/util/Preconditions" ∈ lw_tbl := by decide +kernel
theorem ini_4 : Cond.initialized "java/lang/Integer" ∈ lw_tbl := by decide +kernel
end SJ
