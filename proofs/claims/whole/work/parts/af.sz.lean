/-! the start: arrays' words -/
section SZ
theorem ar_26 : Cond.arrayOf (sTm 26) .byte ∈ sFL := by decide +kernel
theorem ln_26 : Cond.eq (.length (sTm 26)) (.int (Int32.ofNat (mLen 0))) ∈ sFL := by decide +kernel
theorem ar_27 : Cond.arrayOf (sTm 27) .byte ∈ sFL := by decide +kernel
theorem ln_27 : Cond.eq (.length (sTm 27)) (.int (Int32.ofNat (mLen 1))) ∈ sFL := by decide +kernel
theorem ar_28 : Cond.arrayOf (sTm 28) .byte ∈ sFL := by decide +kernel
theorem ln_28 : Cond.eq (.length (sTm 28)) (.int (Int32.ofNat (mLen 2))) ∈ sFL := by decide +kernel
theorem ar_29 : Cond.arrayOf (sTm 29) .byte ∈ sFL := by decide +kernel
theorem ln_29 : Cond.eq (.length (sTm 29)) (.int (Int32.ofNat (mLen 3))) ∈ sFL := by decide +kernel
theorem ar_30 : Cond.arrayOf (sTm 30) .byte ∈ sFL := by decide +kernel
theorem ln_30 : Cond.eq (.length (sTm 30)) (.int (Int32.ofNat (mLen 4))) ∈ sFL := by decide +kernel
theorem ar_31 : Cond.arrayOf (sTm 31) .byte ∈ sFL := by decide +kernel
theorem ln_31 : Cond.eq (.length (sTm 31)) (.int (Int32.ofNat (mLen 5))) ∈ sFL := by decide +kernel
theorem ar_32 : Cond.arrayOf (sTm 32) .byte ∈ sFL := by decide +kernel
theorem ln_32 : Cond.eq (.length (sTm 32)) (.int (Int32.ofNat (mLen 6))) ∈ sFL := by decide +kernel
theorem ar_33 : Cond.arrayOf (sTm 33) .byte ∈ sFL := by decide +kernel
theorem ln_33 : Cond.eq (.length (sTm 33)) (.int (Int32.ofNat (mLen 7))) ∈ sFL := by decide +kernel
theorem ar_34 : Cond.arrayOf (sTm 34) .byte ∈ sFL := by decide +kernel
theorem ln_34 : Cond.eq (.length (sTm 34)) (.int (Int32.ofNat (mLen 8))) ∈ sFL := by decide +kernel
theorem ar_35 : Cond.arrayOf (sTm 35) .byte ∈ sFL := by decide +kernel
theorem ln_35 : Cond.eq (.length (sTm 35)) (.int (Int32.ofNat (mLen 9))) ∈ sFL := by decide +kernel
theorem ar_36 : Cond.arrayOf (sTm 36) .byte ∈ sFL := by decide +kernel
theorem ln_36 : Cond.eq (.length (sTm 36)) (.int (Int32.ofNat (mLen 10))) ∈ sFL := by decide +kernel
theorem ar_37 : Cond.arrayOf (sTm 37) .byte ∈ sFL := by decide +kernel
theorem ln_37 : Cond.eq (.length (sTm 37)) (.int (Int32.ofNat (mLen 11))) ∈ sFL := by decide +kernel
theorem ar_39 : Cond.arrayOf (sTm 39) .byte ∈ sFL := by decide +kernel
theorem ln_39 : Cond.eq (.length (sTm 39)) (.int (Int32.ofNat (65))) ∈ sFL := by decide +kernel
theorem ar_41 : Cond.arrayOf (sTm 41) .byte ∈ sFL := by decide +kernel
theorem ln_41 : Cond.eq (.length (sTm 41)) (.int (Int32.ofNat (100))) ∈ sFL := by decide +kernel
theorem ar_42 : Cond.arrayOf (sTm 42) .byte ∈ sFL := by decide +kernel
theorem ln_42 : Cond.eq (.length (sTm 42)) (.int (Int32.ofNat (100))) ∈ sFL := by decide +kernel
theorem ar_13 : Cond.arrayOf (sTm 13) .int ∈ sFL := by decide +kernel
theorem ln_13 : Cond.eq (.length (sTm 13)) (.int (Int32.ofNat (12))) ∈ sFL := by decide +kernel
end SZ
