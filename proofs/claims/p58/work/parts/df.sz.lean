/-! the start: arrays' words -/
section SZ
theorem ar_41 : Cond.arrayOf (sTm 41) .byte ∈ sFL := by decide +kernel
theorem ln_41 : Cond.eq (.length (sTm 41)) (.int (Int32.ofNat (100))) ∈ sFL := by decide +kernel
theorem ar_42 : Cond.arrayOf (sTm 42) .byte ∈ sFL := by decide +kernel
theorem ln_42 : Cond.eq (.length (sTm 42)) (.int (Int32.ofNat (100))) ∈ sFL := by decide +kernel
theorem ar_110 : Cond.arrayOf (sTm 110) .byte ∈ sFL := by decide +kernel
theorem ln_110 : Cond.eq (.length (sTm 110)) (.int (Int32.ofNat ((lTx.getD 0 []).length))) ∈ sFL := by decide +kernel
theorem ar_111 : Cond.arrayOf (sTm 111) .byte ∈ sFL := by decide +kernel
theorem ln_111 : Cond.eq (.length (sTm 111)) (.int (Int32.ofNat ((lTx.getD 1 []).length))) ∈ sFL := by decide +kernel
theorem ar_112 : Cond.arrayOf (sTm 112) .byte ∈ sFL := by decide +kernel
theorem ln_112 : Cond.eq (.length (sTm 112)) (.int (Int32.ofNat ((lTx.getD 2 []).length))) ∈ sFL := by decide +kernel
theorem ar_113 : Cond.arrayOf (sTm 113) .byte ∈ sFL := by decide +kernel
theorem ln_113 : Cond.eq (.length (sTm 113)) (.int (Int32.ofNat ((lTx.getD 3 []).length))) ∈ sFL := by decide +kernel
theorem ar_114 : Cond.arrayOf (sTm 114) .byte ∈ sFL := by decide +kernel
theorem ln_114 : Cond.eq (.length (sTm 114)) (.int (Int32.ofNat ((lTx.getD 4 []).length))) ∈ sFL := by decide +kernel
theorem ar_115 : Cond.arrayOf (sTm 115) .byte ∈ sFL := by decide +kernel
theorem ln_115 : Cond.eq (.length (sTm 115)) (.int (Int32.ofNat ((lTx.getD 5 []).length))) ∈ sFL := by decide +kernel
theorem ar_116 : Cond.arrayOf (sTm 116) .byte ∈ sFL := by decide +kernel
theorem ln_116 : Cond.eq (.length (sTm 116)) (.int (Int32.ofNat ((lTx.getD 6 []).length))) ∈ sFL := by decide +kernel
theorem ar_117 : Cond.arrayOf (sTm 117) .byte ∈ sFL := by decide +kernel
theorem ln_117 : Cond.eq (.length (sTm 117)) (.int (Int32.ofNat ((lTx.getD 7 []).length))) ∈ sFL := by decide +kernel
theorem ar_118 : Cond.arrayOf (sTm 118) .byte ∈ sFL := by decide +kernel
theorem ln_118 : Cond.eq (.length (sTm 118)) (.int (Int32.ofNat ((lTx.getD 8 []).length))) ∈ sFL := by decide +kernel
end SZ
