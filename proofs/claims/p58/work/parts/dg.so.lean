/-! the start: things' words -/
section SZ1
theorem ex_5 : Cond.exactly (sTm 5) "FloatingDock$Form" ∈ sFL := by decide +kernel
theorem ex_90 : Cond.exactly (sTm 90) "java/lang/String" ∈ sFL := by decide +kernel
theorem co_90 : Cond.eq (.field (sTm 90) "java/lang/String" "coder" "B") (.int 0) ∈ sFL := by decide +kernel
theorem ex_91 : Cond.exactly (sTm 91) "java/lang/String" ∈ sFL := by decide +kernel
theorem co_91 : Cond.eq (.field (sTm 91) "java/lang/String" "coder" "B") (.int 0) ∈ sFL := by decide +kernel
theorem ex_92 : Cond.exactly (sTm 92) "java/lang/String" ∈ sFL := by decide +kernel
theorem co_92 : Cond.eq (.field (sTm 92) "java/lang/String" "coder" "B") (.int 0) ∈ sFL := by decide +kernel
theorem ex_93 : Cond.exactly (sTm 93) "java/lang/String" ∈ sFL := by decide +kernel
theorem co_93 : Cond.eq (.field (sTm 93) "java/lang/String" "coder" "B") (.int 0) ∈ sFL := by decide +kernel
theorem ex_94 : Cond.exactly (sTm 94) "java/lang/String" ∈ sFL := by decide +kernel
theorem co_94 : Cond.eq (.field (sTm 94) "java/lang/String" "coder" "B") (.int 0) ∈ sFL := by decide +kernel
theorem ex_95 : Cond.exactly (sTm 95) "java/lang/String" ∈ sFL := by decide +kernel
theorem co_95 : Cond.eq (.field (sTm 95) "java/lang/String" "coder" "B") (.int 0) ∈ sFL := by decide +kernel
theorem ex_96 : Cond.exactly (sTm 96) "java/lang/String" ∈ sFL := by decide +kernel
theorem co_96 : Cond.eq (.field (sTm 96) "java/lang/String" "coder" "B") (.int 0) ∈ sFL := by decide +kernel
theorem ex_97 : Cond.exactly (sTm 97) "java/lang/String" ∈ sFL := by decide +kernel
theorem co_97 : Cond.eq (.field (sTm 97) "java/lang/String" "coder" "B") (.int 0) ∈ sFL := by decide +kernel
theorem ex_98 : Cond.exactly (sTm 98) "java/lang/String" ∈ sFL := by decide +kernel
theorem co_98 : Cond.eq (.field (sTm 98) "java/lang/String" "coder" "B") (.int 0) ∈ sFL := by decide +kernel
end SZ1
