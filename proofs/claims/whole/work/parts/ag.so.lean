/-! the start: things' words -/
section SZ1
theorem ex_0 : Cond.exactly (sTm 0) "FloatingDock$Form" ∈ sFL := by decide +kernel
theorem od_0 : Cond.eq (.field (sTm 0) "java/lang/Enum" "ordinal" "I") (.int 0) ∈ sFL := by decide +kernel
theorem ex_1 : Cond.exactly (sTm 1) "FloatingDock$Form" ∈ sFL := by decide +kernel
theorem od_1 : Cond.eq (.field (sTm 1) "java/lang/Enum" "ordinal" "I") (.int 1) ∈ sFL := by decide +kernel
theorem ex_2 : Cond.exactly (sTm 2) "FloatingDock$Form" ∈ sFL := by decide +kernel
theorem od_2 : Cond.eq (.field (sTm 2) "java/lang/Enum" "ordinal" "I") (.int 2) ∈ sFL := by decide +kernel
theorem ex_3 : Cond.exactly (sTm 3) "FloatingDock$Form" ∈ sFL := by decide +kernel
theorem od_3 : Cond.eq (.field (sTm 3) "java/lang/Enum" "ordinal" "I") (.int 3) ∈ sFL := by decide +kernel
theorem ex_4 : Cond.exactly (sTm 4) "FloatingDock$Form" ∈ sFL := by decide +kernel
theorem od_4 : Cond.eq (.field (sTm 4) "java/lang/Enum" "ordinal" "I") (.int 4) ∈ sFL := by decide +kernel
theorem ex_5 : Cond.exactly (sTm 5) "FloatingDock$Form" ∈ sFL := by decide +kernel
theorem od_5 : Cond.eq (.field (sTm 5) "java/lang/Enum" "ordinal" "I") (.int 5) ∈ sFL := by decide +kernel
theorem ex_6 : Cond.exactly (sTm 6) "FloatingDock$Form" ∈ sFL := by decide +kernel
theorem od_6 : Cond.eq (.field (sTm 6) "java/lang/Enum" "ordinal" "I") (.int 6) ∈ sFL := by decide +kernel
theorem ex_7 : Cond.exactly (sTm 7) "FloatingDock$Form" ∈ sFL := by decide +kernel
theorem od_7 : Cond.eq (.field (sTm 7) "java/lang/Enum" "ordinal" "I") (.int 7) ∈ sFL := by decide +kernel
theorem ex_8 : Cond.exactly (sTm 8) "FloatingDock$Form" ∈ sFL := by decide +kernel
theorem od_8 : Cond.eq (.field (sTm 8) "java/lang/Enum" "ordinal" "I") (.int 8) ∈ sFL := by decide +kernel
theorem ex_9 : Cond.exactly (sTm 9) "FloatingDock$Form" ∈ sFL := by decide +kernel
theorem od_9 : Cond.eq (.field (sTm 9) "java/lang/Enum" "ordinal" "I") (.int 9) ∈ sFL := by decide +kernel
theorem ex_10 : Cond.exactly (sTm 10) "FloatingDock$Form" ∈ sFL := by decide +kernel
theorem od_10 : Cond.eq (.field (sTm 10) "java/lang/Enum" "ordinal" "I") (.int 10) ∈ sFL := by decide +kernel
theorem ex_11 : Cond.exactly (sTm 11) "FloatingDock$Form" ∈ sFL := by decide +kernel
theorem od_11 : Cond.eq (.field (sTm 11) "java/lang/Enum" "ordinal" "I") (.int 11) ∈ sFL := by decide +kernel
end SZ1
