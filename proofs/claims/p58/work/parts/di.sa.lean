/-! the start: words of statics -/
section SJ
theorem cs_1 : Cond.eq (.static "java/lang/String" "COMPACT_STRINGS" "Z") (.int 1) ∈ sFL := by decide +kernel
theorem sio_1 : Cond.isRef (.static "jdk/internal/util/Preconditions" "SIOOBE_FORMATTER" "Ljava/util/function/BiFunction;") ∈ sFL := by decide +kernel
theorem ly_0 : Cond.laysStatic "java/lang/String" "COMPACT_STRINGS" "Z" ∈ lw_tbl := by decide +kernel
theorem ly_1 : Cond.laysStatic "FloatingDock$Form" "OPEN" "LFloatingDock$Form;" ∈ lw_tbl := by decide +kernel
theorem ly_2 : Cond.laysStatic "jdk/internal/util/Preconditions" "SIOOBE_FORMATTER" "Ljava/util/function/BiFunction;" ∈ lw_tbl := by decide +kernel
theorem ly_3 : Cond.laysStatic "java/lang/Integer" "DigitOnes" "[B" ∈ lw_tbl := by decide +kernel
theorem ly_4 : Cond.laysStatic "java/lang/Integer" "DigitTens" "[B" ∈ lw_tbl := by decide +kernel
theorem ini_0 : Cond.initialized "java/lang/String" ∈ lw_tbl := by decide +kernel
theorem ini_1 : Cond.initialized "FloatingDock$Form" ∈ lw_tbl := by decide +kernel
theorem ini_2 : Cond.initialized "jdk/internal/util/Preconditions" ∈ lw_tbl := by decide +kernel
theorem ini_3 : Cond.initialized "java/lang/Integer" ∈ lw_tbl := by decide +kernel
end SJ
