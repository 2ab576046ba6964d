/-! programs of methods -/
section GP
variable {l : Launch} {Θ : mW} {d N : Nat}
noncomputable def P_AB_init (Θ : mW) (N : Nat) (h : mH) (a0 : Nat) (a1 : Int32) : Option (Unit × mH) :=
  (if (1 : Int32) = 0 then none else (ala Θ h 1 a1 (fun n => .inl (4, n, .inl (fun _ => 0))) (fun q1 h2 => (bo (wF Θ h2 8 a0 0 (.ref q1)) (fun h3 => (if ((J 0)).toInt8.toInt32 = (J 0) ∧ fits .byte (.int (J 0)) = true then (bo (wF Θ h3 8 a0 1 (.int (J 0))) (fun h4 => (some ((), h4)))) else none))))))
theorem S_AB_init (hfl : HF l Θ) (hD : 1 ≤ d) (h : mH) (a0 : Nat) (a1 : Int32) : mMs l Θ d M_AB_init [.ref a0, .int a1] h (tR vU) (P_AB_init Θ N h a0 a1) := by
  refine mMs.of hfl (by decide +kernel) rfl (Nat.le_of_ble_eq_true rfl) (loc := [some (.ref a0), some (.int a1)]) rfl ?_
  unfold P_AB_init
  refine y_aload_n d_AB_init_0 rfl ?_
  refine y_objInit d_AB_init_1 s_AB_3 (mG (1, 42) (by decide +kernel)) (mG (1, 43) (by decide +kernel)) (Nat.le_of_ble_eq_true rfl) (Nat.le_trans (Nat.le_of_ble_eq_true rfl) hD) ?_
  refine y_getstatic d_AB_init_4 t_AB_18 (List.mem_of_getElem? (i := 0) rfl) ?_
  refine y_if_eq (tgt := 25) d_AB_init_7 (by decide) ?_ ?_
  · refine y_aload_n d_AB_init_25 rfl ?_
    refine y_iload_n d_AB_init_26 rfl ?_
    exact y_none
  · refine y_aload_n d_AB_init_10 rfl ?_
    refine y_iload_n d_AB_init_11 rfl ?_
    refine y_newarr (ty := .byte) (a0 := fun n => (n, .inl (fun _ => 0))) d_AB_init_12 rfl (fun _ => rfl) (mG (2, 20) (by decide +kernel)) (fun _ _ => rfl) (fun _ => rfl) rfl (fun q1 h2 => ?_)
    refine y_put d_AB_init_14 p_AB_15 rfl rfl (fun h3 => ?_)
    refine y_aload_n d_AB_init_17 rfl ?_
    refine y_iconst (v := (J 0)) d_AB_init_18 rfl ?_
    refine y_gB (fun hn hf => y_put d_AB_init_19 p_AB_22 hn hf (fun h4 => ?_))
    refine y_goto (tgt := 38) d_AB_init_22 (by decide) ?_
    exact y_retU d_AB_init_38 rfl
noncomputable def P_SB_init (Θ : mW) (N : Nat) (h : mH) (a0 : Nat) : Option (Unit × mH) :=
  (bc (P_AB_init Θ N h a0 (J 16)) (fun v2 h1 => (some ((), h1))))
theorem S_SB_init (hfl : HF l Θ) (hD : 2 ≤ d) (h : mH) (a0 : Nat) : mMs l Θ d M_SB_init [.ref a0] h (tR vU) (P_SB_init Θ N h a0) := by
  refine mMs.of hfl (by decide +kernel) rfl (Nat.le_of_ble_eq_true rfl) (loc := [some (.ref a0)]) rfl ?_
  unfold P_SB_init
  refine y_aload_n d_SB_init_0 rfl ?_
  refine y_bipush (v := (J 16)) d_SB_init_1 (by decide +kernel) ?_
  refine y_cU (c_in (rest := []) d_SB_init_3 k_AB_init s_SB_1 rfl rfl (Nat.le_of_ble_eq_true rfl) (Nat.le_trans (Nat.le_of_ble_eq_true rfl : 1 + 1 ≤ 2) hD) (S_AB_init hfl (Nat.le_refl _) h a0 (J 16))) (fun v2 h1 => ?_)
  exact y_retU d_SB_init_6 rfl
noncomputable def P_IN_bitCount (Θ : mW) (N : Nat) (h : mH) (a0 : Int32) : Option (Int32 × mH) :=
  (some (((((((((a0 - ((ush a0 (J 1)) &&& (1431655765 : Int32))) &&& (858993459 : Int32)) + ((ush (a0 - ((ush a0 (J 1)) &&& (1431655765 : Int32))) (J 2)) &&& (858993459 : Int32))) + (ush (((a0 - ((ush a0 (J 1)) &&& (1431655765 : Int32))) &&& (858993459 : Int32)) + ((ush (a0 - ((ush a0 (J 1)) &&& (1431655765 : Int32))) (J 2)) &&& (858993459 : Int32))) (J 4))) &&& (252645135 : Int32)) + (ush (((((a0 - ((ush a0 (J 1)) &&& (1431655765 : Int32))) &&& (858993459 : Int32)) + ((ush (a0 - ((ush a0 (J 1)) &&& (1431655765 : Int32))) (J 2)) &&& (858993459 : Int32))) + (ush (((a0 - ((ush a0 (J 1)) &&& (1431655765 : Int32))) &&& (858993459 : Int32)) + ((ush (a0 - ((ush a0 (J 1)) &&& (1431655765 : Int32))) (J 2)) &&& (858993459 : Int32))) (J 4))) &&& (252645135 : Int32)) (J 8))) + (ush ((((((a0 - ((ush a0 (J 1)) &&& (1431655765 : Int32))) &&& (858993459 : Int32)) + ((ush (a0 - ((ush a0 (J 1)) &&& (1431655765 : Int32))) (J 2)) &&& (858993459 : Int32))) + (ush (((a0 - ((ush a0 (J 1)) &&& (1431655765 : Int32))) &&& (858993459 : Int32)) + ((ush (a0 - ((ush a0 (J 1)) &&& (1431655765 : Int32))) (J 2)) &&& (858993459 : Int32))) (J 4))) &&& (252645135 : Int32)) + (ush (((((a0 - ((ush a0 (J 1)) &&& (1431655765 : Int32))) &&& (858993459 : Int32)) + ((ush (a0 - ((ush a0 (J 1)) &&& (1431655765 : Int32))) (J 2)) &&& (858993459 : Int32))) + (ush (((a0 - ((ush a0 (J 1)) &&& (1431655765 : Int32))) &&& (858993459 : Int32)) + ((ush (a0 - ((ush a0 (J 1)) &&& (1431655765 : Int32))) (J 2)) &&& (858993459 : Int32))) (J 4))) &&& (252645135 : Int32)) (J 8))) (J 16))) &&& (J 63)), h))
theorem S_IN_bitCount (hfl : HF l Θ) (hD : 1 ≤ d) (h : mH) (a0 : Int32) : mMs l Θ d M_IN_bitCount [.int a0] h (tR vI) (P_IN_bitCount Θ N h a0) := by
  refine mMs.of hfl (by decide +kernel) rfl (Nat.le_of_ble_eq_true rfl) (loc := [some (.int a0)]) rfl ?_
  unfold P_IN_bitCount
  refine y_iload_n d_IN_bitCount_0 rfl ?_
  refine y_iload_n d_IN_bitCount_1 rfl ?_
  refine y_iconst (v := (J 1)) d_IN_bitCount_2 rfl ?_
  refine y_iushr (v := ush a0 (J 1)) d_IN_bitCount_3 rfl ?_
  refine y_ldcw d_IN_bitCount_4 l_IN_265 ?_
  refine y_iand (v := ((ush a0 (J 1)) &&& (1431655765 : Int32))) d_IN_bitCount_7 rfl ?_
  refine y_isub (v := (a0 - ((ush a0 (J 1)) &&& (1431655765 : Int32)))) d_IN_bitCount_8 rfl ?_
  refine y_istore_n (loc2 := [some (.int (a0 - ((ush a0 (J 1)) &&& (1431655765 : Int32))))]) d_IN_bitCount_9 (Nat.le_of_ble_eq_true rfl) rfl rfl ?_
  refine y_iload_n d_IN_bitCount_10 rfl ?_
  refine y_ldcw d_IN_bitCount_11 l_IN_266 ?_
  refine y_iand (v := ((a0 - ((ush a0 (J 1)) &&& (1431655765 : Int32))) &&& (858993459 : Int32))) d_IN_bitCount_14 rfl ?_
  refine y_iload_n d_IN_bitCount_15 rfl ?_
  refine y_iconst (v := (J 2)) d_IN_bitCount_16 rfl ?_
  refine y_iushr (v := ush (a0 - ((ush a0 (J 1)) &&& (1431655765 : Int32))) (J 2)) d_IN_bitCount_17 rfl ?_
  refine y_ldcw d_IN_bitCount_18 l_IN_266 ?_
  refine y_iand (v := ((ush (a0 - ((ush a0 (J 1)) &&& (1431655765 : Int32))) (J 2)) &&& (858993459 : Int32))) d_IN_bitCount_21 rfl ?_
  refine y_iadd (v := (((a0 - ((ush a0 (J 1)) &&& (1431655765 : Int32))) &&& (858993459 : Int32)) + ((ush (a0 - ((ush a0 (J 1)) &&& (1431655765 : Int32))) (J 2)) &&& (858993459 : Int32)))) d_IN_bitCount_22 rfl ?_
  refine y_istore_n (loc2 := [some (.int (((a0 - ((ush a0 (J 1)) &&& (1431655765 : Int32))) &&& (858993459 : Int32)) + ((ush (a0 - ((ush a0 (J 1)) &&& (1431655765 : Int32))) (J 2)) &&& (858993459 : Int32))))]) d_IN_bitCount_23 (Nat.le_of_ble_eq_true rfl) rfl rfl ?_
  refine y_iload_n d_IN_bitCount_24 rfl ?_
  refine y_iload_n d_IN_bitCount_25 rfl ?_
  refine y_iconst (v := (J 4)) d_IN_bitCount_26 rfl ?_
  refine y_iushr (v := ush (((a0 - ((ush a0 (J 1)) &&& (1431655765 : Int32))) &&& (858993459 : Int32)) + ((ush (a0 - ((ush a0 (J 1)) &&& (1431655765 : Int32))) (J 2)) &&& (858993459 : Int32))) (J 4)) d_IN_bitCount_27 rfl ?_
  refine y_iadd (v := ((((a0 - ((ush a0 (J 1)) &&& (1431655765 : Int32))) &&& (858993459 : Int32)) + ((ush (a0 - ((ush a0 (J 1)) &&& (1431655765 : Int32))) (J 2)) &&& (858993459 : Int32))) + (ush (((a0 - ((ush a0 (J 1)) &&& (1431655765 : Int32))) &&& (858993459 : Int32)) + ((ush (a0 - ((ush a0 (J 1)) &&& (1431655765 : Int32))) (J 2)) &&& (858993459 : Int32))) (J 4)))) d_IN_bitCount_28 rfl ?_
  refine y_ldcw d_IN_bitCount_29 l_IN_267 ?_
  refine y_iand (v := (((((a0 - ((ush a0 (J 1)) &&& (1431655765 : Int32))) &&& (858993459 : Int32)) + ((ush (a0 - ((ush a0 (J 1)) &&& (1431655765 : Int32))) (J 2)) &&& (858993459 : Int32))) + (ush (((a0 - ((ush a0 (J 1)) &&& (1431655765 : Int32))) &&& (858993459 : Int32)) + ((ush (a0 - ((ush a0 (J 1)) &&& (1431655765 : Int32))) (J 2)) &&& (858993459 : Int32))) (J 4))) &&& (252645135 : Int32))) d_IN_bitCount_32 rfl ?_
  refine y_istore_n (loc2 := [some (.int (((((a0 - ((ush a0 (J 1)) &&& (1431655765 : Int32))) &&& (858993459 : Int32)) + ((ush (a0 - ((ush a0 (J 1)) &&& (1431655765 : Int32))) (J 2)) &&& (858993459 : Int32))) + (ush (((a0 - ((ush a0 (J 1)) &&& (1431655765 : Int32))) &&& (858993459 : Int32)) + ((ush (a0 - ((ush a0 (J 1)) &&& (1431655765 : Int32))) (J 2)) &&& (858993459 : Int32))) (J 4))) &&& (252645135 : Int32)))]) d_IN_bitCount_33 (Nat.le_of_ble_eq_true rfl) rfl rfl ?_
  refine y_iload_n d_IN_bitCount_34 rfl ?_
  refine y_iload_n d_IN_bitCount_35 rfl ?_
  refine y_bipush (v := (J 8)) d_IN_bitCount_36 (by decide +kernel) ?_
  refine y_iushr (v := ush (((((a0 - ((ush a0 (J 1)) &&& (1431655765 : Int32))) &&& (858993459 : Int32)) + ((ush (a0 - ((ush a0 (J 1)) &&& (1431655765 : Int32))) (J 2)) &&& (858993459 : Int32))) + (ush (((a0 - ((ush a0 (J 1)) &&& (1431655765 : Int32))) &&& (858993459 : Int32)) + ((ush (a0 - ((ush a0 (J 1)) &&& (1431655765 : Int32))) (J 2)) &&& (858993459 : Int32))) (J 4))) &&& (252645135 : Int32)) (J 8)) d_IN_bitCount_38 rfl ?_
  refine y_iadd (v := ((((((a0 - ((ush a0 (J 1)) &&& (1431655765 : Int32))) &&& (858993459 : Int32)) + ((ush (a0 - ((ush a0 (J 1)) &&& (1431655765 : Int32))) (J 2)) &&& (858993459 : Int32))) + (ush (((a0 - ((ush a0 (J 1)) &&& (1431655765 : Int32))) &&& (858993459 : Int32)) + ((ush (a0 - ((ush a0 (J 1)) &&& (1431655765 : Int32))) (J 2)) &&& (858993459 : Int32))) (J 4))) &&& (252645135 : Int32)) + (ush (((((a0 - ((ush a0 (J 1)) &&& (1431655765 : Int32))) &&& (858993459 : Int32)) + ((ush (a0 - ((ush a0 (J 1)) &&& (1431655765 : Int32))) (J 2)) &&& (858993459 : Int32))) + (ush (((a0 - ((ush a0 (J 1)) &&& (1431655765 : Int32))) &&& (858993459 : Int32)) + ((ush (a0 - ((ush a0 (J 1)) &&& (1431655765 : Int32))) (J 2)) &&& (858993459 : Int32))) (J 4))) &&& (252645135 : Int32)) (J 8)))) d_IN_bitCount_39 rfl ?_
  refine y_istore_n (loc2 := [some (.int ((((((a0 - ((ush a0 (J 1)) &&& (1431655765 : Int32))) &&& (858993459 : Int32)) + ((ush (a0 - ((ush a0 (J 1)) &&& (1431655765 : Int32))) (J 2)) &&& (858993459 : Int32))) + (ush (((a0 - ((ush a0 (J 1)) &&& (1431655765 : Int32))) &&& (858993459 : Int32)) + ((ush (a0 - ((ush a0 (J 1)) &&& (1431655765 : Int32))) (J 2)) &&& (858993459 : Int32))) (J 4))) &&& (252645135 : Int32)) + (ush (((((a0 - ((ush a0 (J 1)) &&& (1431655765 : Int32))) &&& (858993459 : Int32)) + ((ush (a0 - ((ush a0 (J 1)) &&& (1431655765 : Int32))) (J 2)) &&& (858993459 : Int32))) + (ush (((a0 - ((ush a0 (J 1)) &&& (1431655765 : Int32))) &&& (858993459 : Int32)) + ((ush (a0 - ((ush a0 (J 1)) &&& (1431655765 : Int32))) (J 2)) &&& (858993459 : Int32))) (J 4))) &&& (252645135 : Int32)) (J 8))))]) d_IN_bitCount_40 (Nat.le_of_ble_eq_true rfl) rfl rfl ?_
  refine y_iload_n d_IN_bitCount_41 rfl ?_
  refine y_iload_n d_IN_bitCount_42 rfl ?_
  refine y_bipush (v := (J 16)) d_IN_bitCount_43 (by decide +kernel) ?_
  refine y_iushr (v := ush ((((((a0 - ((ush a0 (J 1)) &&& (1431655765 : Int32))) &&& (858993459 : Int32)) + ((ush (a0 - ((ush a0 (J 1)) &&& (1431655765 : Int32))) (J 2)) &&& (858993459 : Int32))) + (ush (((a0 - ((ush a0 (J 1)) &&& (1431655765 : Int32))) &&& (858993459 : Int32)) + ((ush (a0 - ((ush a0 (J 1)) &&& (1431655765 : Int32))) (J 2)) &&& (858993459 : Int32))) (J 4))) &&& (252645135 : Int32)) + (ush (((((a0 - ((ush a0 (J 1)) &&& (1431655765 : Int32))) &&& (858993459 : Int32)) + ((ush (a0 - ((ush a0 (J 1)) &&& (1431655765 : Int32))) (J 2)) &&& (858993459 : Int32))) + (ush (((a0 - ((ush a0 (J 1)) &&& (1431655765 : Int32))) &&& (858993459 : Int32)) + ((ush (a0 - ((ush a0 (J 1)) &&& (1431655765 : Int32))) (J 2)) &&& (858993459 : Int32))) (J 4))) &&& (252645135 : Int32)) (J 8))) (J 16)) d_IN_bitCount_45 rfl ?_
  refine y_iadd (v := (((((((a0 - ((ush a0 (J 1)) &&& (1431655765 : Int32))) &&& (858993459 : Int32)) + ((ush (a0 - ((ush a0 (J 1)) &&& (1431655765 : Int32))) (J 2)) &&& (858993459 : Int32))) + (ush (((a0 - ((ush a0 (J 1)) &&& (1431655765 : Int32))) &&& (858993459 : Int32)) + ((ush (a0 - ((ush a0 (J 1)) &&& (1431655765 : Int32))) (J 2)) &&& (858993459 : Int32))) (J 4))) &&& (252645135 : Int32)) + (ush (((((a0 - ((ush a0 (J 1)) &&& (1431655765 : Int32))) &&& (858993459 : Int32)) + ((ush (a0 - ((ush a0 (J 1)) &&& (1431655765 : Int32))) (J 2)) &&& (858993459 : Int32))) + (ush (((a0 - ((ush a0 (J 1)) &&& (1431655765 : Int32))) &&& (858993459 : Int32)) + ((ush (a0 - ((ush a0 (J 1)) &&& (1431655765 : Int32))) (J 2)) &&& (858993459 : Int32))) (J 4))) &&& (252645135 : Int32)) (J 8))) + (ush ((((((a0 - ((ush a0 (J 1)) &&& (1431655765 : Int32))) &&& (858993459 : Int32)) + ((ush (a0 - ((ush a0 (J 1)) &&& (1431655765 : Int32))) (J 2)) &&& (858993459 : Int32))) + (ush (((a0 - ((ush a0 (J 1)) &&& (1431655765 : Int32))) &&& (858993459 : Int32)) + ((ush (a0 - ((ush a0 (J 1)) &&& (1431655765 : Int32))) (J 2)) &&& (858993459 : Int32))) (J 4))) &&& (252645135 : Int32)) + (ush (((((a0 - ((ush a0 (J 1)) &&& (1431655765 : Int32))) &&& (858993459 : Int32)) + ((ush (a0 - ((ush a0 (J 1)) &&& (1431655765 : Int32))) (J 2)) &&& (858993459 : Int32))) + (ush (((a0 - ((ush a0 (J 1)) &&& (1431655765 : Int32))) &&& (858993459 : Int32)) + ((ush (a0 - ((ush a0 (J 1)) &&& (1431655765 : Int32))) (J 2)) &&& (858993459 : Int32))) (J 4))) &&& (252645135 : Int32)) (J 8))) (J 16)))) d_IN_bitCount_46 rfl ?_
  refine y_istore_n (loc2 := [some (.int (((((((a0 - ((ush a0 (J 1)) &&& (1431655765 : Int32))) &&& (858993459 : Int32)) + ((ush (a0 - ((ush a0 (J 1)) &&& (1431655765 : Int32))) (J 2)) &&& (858993459 : Int32))) + (ush (((a0 - ((ush a0 (J 1)) &&& (1431655765 : Int32))) &&& (858993459 : Int32)) + ((ush (a0 - ((ush a0 (J 1)) &&& (1431655765 : Int32))) (J 2)) &&& (858993459 : Int32))) (J 4))) &&& (252645135 : Int32)) + (ush (((((a0 - ((ush a0 (J 1)) &&& (1431655765 : Int32))) &&& (858993459 : Int32)) + ((ush (a0 - ((ush a0 (J 1)) &&& (1431655765 : Int32))) (J 2)) &&& (858993459 : Int32))) + (ush (((a0 - ((ush a0 (J 1)) &&& (1431655765 : Int32))) &&& (858993459 : Int32)) + ((ush (a0 - ((ush a0 (J 1)) &&& (1431655765 : Int32))) (J 2)) &&& (858993459 : Int32))) (J 4))) &&& (252645135 : Int32)) (J 8))) + (ush ((((((a0 - ((ush a0 (J 1)) &&& (1431655765 : Int32))) &&& (858993459 : Int32)) + ((ush (a0 - ((ush a0 (J 1)) &&& (1431655765 : Int32))) (J 2)) &&& (858993459 : Int32))) + (ush (((a0 - ((ush a0 (J 1)) &&& (1431655765 : Int32))) &&& (858993459 : Int32)) + ((ush (a0 - ((ush a0 (J 1)) &&& (1431655765 : Int32))) (J 2)) &&& (858993459 : Int32))) (J 4))) &&& (252645135 : Int32)) + (ush (((((a0 - ((ush a0 (J 1)) &&& (1431655765 : Int32))) &&& (858993459 : Int32)) + ((ush (a0 - ((ush a0 (J 1)) &&& (1431655765 : Int32))) (J 2)) &&& (858993459 : Int32))) + (ush (((a0 - ((ush a0 (J 1)) &&& (1431655765 : Int32))) &&& (858993459 : Int32)) + ((ush (a0 - ((ush a0 (J 1)) &&& (1431655765 : Int32))) (J 2)) &&& (858993459 : Int32))) (J 4))) &&& (252645135 : Int32)) (J 8))) (J 16))))]) d_IN_bitCount_47 (Nat.le_of_ble_eq_true rfl) rfl rfl ?_
  refine y_iload_n d_IN_bitCount_48 rfl ?_
  refine y_bipush (v := (J 63)) d_IN_bitCount_49 (by decide +kernel) ?_
  refine y_iand (v := ((((((((a0 - ((ush a0 (J 1)) &&& (1431655765 : Int32))) &&& (858993459 : Int32)) + ((ush (a0 - ((ush a0 (J 1)) &&& (1431655765 : Int32))) (J 2)) &&& (858993459 : Int32))) + (ush (((a0 - ((ush a0 (J 1)) &&& (1431655765 : Int32))) &&& (858993459 : Int32)) + ((ush (a0 - ((ush a0 (J 1)) &&& (1431655765 : Int32))) (J 2)) &&& (858993459 : Int32))) (J 4))) &&& (252645135 : Int32)) + (ush (((((a0 - ((ush a0 (J 1)) &&& (1431655765 : Int32))) &&& (858993459 : Int32)) + ((ush (a0 - ((ush a0 (J 1)) &&& (1431655765 : Int32))) (J 2)) &&& (858993459 : Int32))) + (ush (((a0 - ((ush a0 (J 1)) &&& (1431655765 : Int32))) &&& (858993459 : Int32)) + ((ush (a0 - ((ush a0 (J 1)) &&& (1431655765 : Int32))) (J 2)) &&& (858993459 : Int32))) (J 4))) &&& (252645135 : Int32)) (J 8))) + (ush ((((((a0 - ((ush a0 (J 1)) &&& (1431655765 : Int32))) &&& (858993459 : Int32)) + ((ush (a0 - ((ush a0 (J 1)) &&& (1431655765 : Int32))) (J 2)) &&& (858993459 : Int32))) + (ush (((a0 - ((ush a0 (J 1)) &&& (1431655765 : Int32))) &&& (858993459 : Int32)) + ((ush (a0 - ((ush a0 (J 1)) &&& (1431655765 : Int32))) (J 2)) &&& (858993459 : Int32))) (J 4))) &&& (252645135 : Int32)) + (ush (((((a0 - ((ush a0 (J 1)) &&& (1431655765 : Int32))) &&& (858993459 : Int32)) + ((ush (a0 - ((ush a0 (J 1)) &&& (1431655765 : Int32))) (J 2)) &&& (858993459 : Int32))) + (ush (((a0 - ((ush a0 (J 1)) &&& (1431655765 : Int32))) &&& (858993459 : Int32)) + ((ush (a0 - ((ush a0 (J 1)) &&& (1431655765 : Int32))) (J 2)) &&& (858993459 : Int32))) (J 4))) &&& (252645135 : Int32)) (J 8))) (J 16))) &&& (J 63))) d_IN_bitCount_51 rfl ?_
  exact y_retI d_IN_bitCount_52 rfl rfl
noncomputable def P_AS_newLength (Θ : mW) (N : Nat) (h : mH) (a0 : Int32) (a1 : Int32) (a2 : Int32) : Option (Int32 × mH) :=
  (if (a0 + (mxI a1 a2)) ≤ (J 0) then none else (if (2147483639 : Int32) < (a0 + (mxI a1 a2)) then none else (some ((a0 + (mxI a1 a2)), h))))
theorem S_AS_newLength (hfl : HF l Θ) (hD : 1 ≤ d) (h : mH) (a0 : Int32) (a1 : Int32) (a2 : Int32) : mMs l Θ d M_AS_newLength [.int a0, .int a1, .int a2] h (tR vI) (P_AS_newLength Θ N h a0 a1 a2) := by
  refine mMs.of hfl (by decide +kernel) rfl (Nat.le_of_ble_eq_true rfl) (loc := [some (.int a0), some (.int a1), some (.int a2), none]) rfl ?_
  unfold P_AS_newLength
  refine y_iload_n d_AS_newLength_0 rfl ?_
  refine y_iload_n d_AS_newLength_1 rfl ?_
  refine y_iload_n d_AS_newLength_2 rfl ?_
  refine y_mmax d_AS_newLength_3 s_AS_194.1 s_AS_194.2 k_MA_max.2.2.2.2.2 (mG (3, 185) (by decide +kernel)) (Nat.le_of_ble_eq_true rfl) (Nat.le_trans (Nat.le_of_ble_eq_true rfl) hD) ?_
  refine y_iadd (v := (a0 + (mxI a1 a2))) d_AS_newLength_6 rfl ?_
  refine y_istore_n (loc2 := [some (.int a0), some (.int a1), some (.int a2), some (.int (a0 + (mxI a1 a2)))]) d_AS_newLength_7 (Nat.le_of_ble_eq_true rfl) rfl rfl ?_
  refine y_iconst (v := (J 0)) d_AS_newLength_8 rfl ?_
  refine y_iload_n d_AS_newLength_9 rfl ?_
  refine y_icmp_ge (tgt := 21) d_AS_newLength_10 (by decide) ?_ ?_
  · refine y_iload_n d_AS_newLength_21 rfl ?_
    refine y_iload_n d_AS_newLength_22 rfl ?_
    exact y_none
  · refine y_iload_n d_AS_newLength_13 rfl ?_
    refine y_ldc d_AS_newLength_14 l_AS_200 ?_
    refine y_icmp_gt (tgt := 21) d_AS_newLength_16 (by decide) ?_ ?_
    · refine y_iload_n d_AS_newLength_21 rfl ?_
      refine y_iload_n d_AS_newLength_22 rfl ?_
      exact y_none
    · refine y_iload_n d_AS_newLength_19 rfl ?_
      exact y_retI d_AS_newLength_20 rfl rfl
noncomputable def P_AB_newCapacity (Θ : mW) (N : Nat) (h : mH) (a0 : Nat) (a1 : Int32) : Option (Int32 × mH) :=
  (bo (rA Θ h 8 a0 0) (fun v1 => (bo (aN Θ h v1) (fun v2 => (bo (rI Θ h 8 a0 1) (fun v3 => (bo (rI Θ h 8 a0 1) (fun v4 => (bc (P_AS_newLength Θ N h v2 ((a1 <<< (v3 &&& 31)) - v2) (v2 + ((J 2) <<< (v4 &&& 31)))) (fun v6 h5 => (if v6 = (2147483647 : Int32) then none else (bo (rI Θ h5 8 a0 1) (fun v7 => (some ((v6 >>> (v7 &&& 31)), h5)))))))))))))))
theorem S_AB_newCapacity (hfl : HF l Θ) (hD : 2 ≤ d) (h : mH) (a0 : Nat) (a1 : Int32) : mMs l Θ d M_AB_newCapacity [.ref a0, .int a1] h (tR vI) (P_AB_newCapacity Θ N h a0 a1) := by
  refine mMs.of hfl (by decide +kernel) rfl (Nat.le_of_ble_eq_true rfl) (loc := [some (.ref a0), some (.int a1), none, none, none, none]) rfl ?_
  unfold P_AB_newCapacity
  refine y_aload_n d_AB_newCapacity_0 rfl ?_
  refine y_getA d_AB_newCapacity_1 f_AB_15 (fun v1 => ?_)
  refine y_alen d_AB_newCapacity_4 (fun v2 => ?_)
  refine y_istore_n (loc2 := [some (.ref a0), some (.int a1), some (.int v2), none, none, none]) d_AB_newCapacity_5 (Nat.le_of_ble_eq_true rfl) rfl rfl ?_
  refine y_iload_n d_AB_newCapacity_6 rfl ?_
  refine y_aload_n d_AB_newCapacity_7 rfl ?_
  refine y_getI d_AB_newCapacity_8 f_AB_22 (fun v3 => ?_)
  refine y_ishl (v := (a1 <<< (v3 &&& 31))) d_AB_newCapacity_11 rfl ?_
  refine y_istore_n (loc2 := [some (.ref a0), some (.int a1), some (.int v2), some (.int (a1 <<< (v3 &&& 31))), none, none]) d_AB_newCapacity_12 (Nat.le_of_ble_eq_true rfl) rfl rfl ?_
  refine y_iload_n d_AB_newCapacity_13 rfl ?_
  refine y_iload_n d_AB_newCapacity_14 rfl ?_
  refine y_isub (v := ((a1 <<< (v3 &&& 31)) - v2)) d_AB_newCapacity_15 rfl ?_
  refine y_istore (loc2 := [some (.ref a0), some (.int a1), some (.int v2), some (.int (a1 <<< (v3 &&& 31))), some (.int ((a1 <<< (v3 &&& 31)) - v2)), none]) d_AB_newCapacity_16 (Nat.le_of_ble_eq_true rfl) rfl rfl ?_
  refine y_iload_n d_AB_newCapacity_18 rfl ?_
  refine y_iload d_AB_newCapacity_19 rfl ?_
  refine y_iload_n d_AB_newCapacity_21 rfl ?_
  refine y_iconst (v := (J 2)) d_AB_newCapacity_22 rfl ?_
  refine y_aload_n d_AB_newCapacity_23 rfl ?_
  refine y_getI d_AB_newCapacity_24 f_AB_22 (fun v4 => ?_)
  refine y_ishl (v := ((J 2) <<< (v4 &&& 31))) d_AB_newCapacity_27 rfl ?_
  refine y_iadd (v := (v2 + ((J 2) <<< (v4 &&& 31)))) d_AB_newCapacity_28 rfl ?_
  refine y_cI (c_st (rest := []) d_AB_newCapacity_29 k_AS_newLength s_AB_114 rfl rfl (Nat.le_of_ble_eq_true rfl) (Nat.le_trans (Nat.le_of_ble_eq_true rfl : 1 + 1 ≤ 2) hD) (S_AS_newLength hfl (Nat.le_refl _) h v2 ((a1 <<< (v3 &&& 31)) - v2) (v2 + ((J 2) <<< (v4 &&& 31))))) (fun v6 h5 => ?_)
  refine y_istore (loc2 := [some (.ref a0), some (.int a1), some (.int v2), some (.int (a1 <<< (v3 &&& 31))), some (.int ((a1 <<< (v3 &&& 31)) - v2)), some (.int v6)]) d_AB_newCapacity_32 (Nat.le_of_ble_eq_true rfl) rfl rfl ?_
  refine y_iload d_AB_newCapacity_34 rfl ?_
  refine y_ldc d_AB_newCapacity_36 l_AB_39 ?_
  refine y_icmp_ne (tgt := 51) d_AB_newCapacity_38 (by decide) ?_ ?_
  · refine y_iload d_AB_newCapacity_51 rfl ?_
    refine y_aload_n d_AB_newCapacity_53 rfl ?_
    refine y_getI d_AB_newCapacity_54 f_AB_22 (fun v7 => ?_)
    refine y_ishr (v := (v6 >>> (v7 &&& 31))) d_AB_newCapacity_57 rfl ?_
    exact y_retI d_AB_newCapacity_58 rfl rfl
  · exact y_none
noncomputable def P_AR_copyOf (Θ : mW) (N : Nat) (h : mH) (a0 : Nat) (a1 : Int32) : Option (Nat × mH) :=
  (bo (aN Θ h a0) (fun v1 => (if a1 = v1 then (aCl Θ h 4 a0 (fun q6 h7 => (some (q6, h7)))) else (ala Θ h 1 a1 (fun n => .inl (4, n, .inl (fun _ => 0))) (fun q2 h3 => (bo (aN Θ h3 a0) (fun v4 => (bo (cpB Θ h3 a0 (J 0) q2 (J 0) (mnI v4 a1)) (fun h5 => (some (q2, h5)))))))))))
theorem S_AR_copyOf (hfl : HF l Θ) (hD : 1 ≤ d) (h : mH) (a0 : Nat) (a1 : Int32) : mMs l Θ d M_AR_copyOf [.ref a0, .int a1] h (tR vA) (P_AR_copyOf Θ N h a0 a1) := by
  refine mMs.of hfl (by decide +kernel) rfl (Nat.le_of_ble_eq_true rfl) (loc := [some (.ref a0), some (.int a1), none]) rfl ?_
  unfold P_AR_copyOf
  refine y_iload_n d_AR_copyOf_0 rfl ?_
  refine y_aload_n d_AR_copyOf_1 rfl ?_
  refine y_alen d_AR_copyOf_2 (fun v1 => ?_)
  refine y_icmp_ne (tgt := 14) d_AR_copyOf_3 (by decide) ?_ ?_
  · refine y_iload_n d_AR_copyOf_14 rfl ?_
    refine y_newarr (ty := .byte) (a0 := fun n => (n, .inl (fun _ => 0))) d_AR_copyOf_15 rfl (fun _ => rfl) (mG (2, 20) (by decide +kernel)) (fun _ _ => rfl) (fun _ => rfl) rfl (fun q2 h3 => ?_)
    refine y_astore_n (loc2 := [some (.ref a0), some (.int a1), some (.ref q2)]) d_AR_copyOf_17 (Nat.le_of_ble_eq_true rfl) rfl rfl ?_
    refine y_aload_n d_AR_copyOf_18 rfl ?_
    refine y_iconst (v := (J 0)) d_AR_copyOf_19 rfl ?_
    refine y_aload_n d_AR_copyOf_20 rfl ?_
    refine y_iconst (v := (J 0)) d_AR_copyOf_21 rfl ?_
    refine y_aload_n d_AR_copyOf_22 rfl ?_
    refine y_alen d_AR_copyOf_23 (fun v4 => ?_)
    refine y_iload_n d_AR_copyOf_24 rfl ?_
    refine y_mmin d_AR_copyOf_25 s_AR_304.1 s_AR_304.2 k_MA_min.2.2.2.2.2 (mG (2, 239) (by decide +kernel)) (Nat.le_of_ble_eq_true rfl) (Nat.le_trans (Nat.le_of_ble_eq_true rfl) hD) ?_
    refine y_acopyB d_AR_copyOf_28 s_AR_150 (mG (2, 135) (by decide +kernel)) (mG (2, 134) (by decide +kernel)) (mG (1, 15) (by decide +kernel)) (Nat.le_of_ble_eq_true rfl) (Nat.le_trans (Nat.le_of_ble_eq_true rfl) hD) (fun h5 => ?_)
    refine y_aload_n d_AR_copyOf_31 rfl ?_
    exact y_retA d_AR_copyOf_32 rfl (Or.inr ⟨_, rfl⟩)
  · refine y_aload_n d_AR_copyOf_6 rfl ?_
    refine y_clone d_AR_copyOf_7 ⟨mG (4, 182) (by decide +kernel), mG (4, 183) (by decide +kernel), mG (4, 184) (by decide +kernel), mG (4, 185) (by decide +kernel), mG (4, 186) (by decide +kernel), mN (4, 187) (by decide +kernel)⟩ (Nat.le_of_ble_eq_true rfl) (Nat.le_trans (Nat.le_of_ble_eq_true rfl) hD) (fun q6 h7 gcl => ?_)
    refine y_castB d_AR_copyOf_10 (mG (4, 188) (by decide +kernel)) gcl ?_
    exact y_retA d_AR_copyOf_13 rfl (Or.inr ⟨_, rfl⟩)
noncomputable def P_AB_ensureCapacityInternal (Θ : mW) (N : Nat) (h : mH) (a0 : Nat) (a1 : Int32) : Option (Unit × mH) :=
  (bo (rA Θ h 8 a0 0) (fun v1 => (bo (aN Θ h v1) (fun v2 => (bo (rI Θ h 8 a0 1) (fun v3 => (if (a1 - (v2 >>> (v3 &&& 31))) ≤ 0 then (some ((), h)) else (bo (rA Θ h 8 a0 0) (fun v4 => (gO Θ h 8 a0 (bc (P_AB_newCapacity Θ N h a0 a1) (fun v6 h5 => (bo (rI Θ h5 8 a0 1) (fun v7 => (bc (P_AR_copyOf Θ N h5 v4 (v6 <<< (v7 &&& 31))) (fun v9 h8 => (bo (wF Θ h8 8 a0 0 (.ref v9)) (fun h10 => (some ((), h10))))))))))))))))))))
theorem S_AB_ensureCapacityInternal (hfl : HF l Θ) (hD : 3 ≤ d) (h : mH) (a0 : Nat) (a1 : Int32) : mMs l Θ d M_AB_ensureCapacityInternal [.ref a0, .int a1] h (tR vU) (P_AB_ensureCapacityInternal Θ N h a0 a1) := by
  refine mMs.of hfl (by decide +kernel) rfl (Nat.le_of_ble_eq_true rfl) (loc := [some (.ref a0), some (.int a1), none]) rfl ?_
  unfold P_AB_ensureCapacityInternal
  refine y_aload_n d_AB_ensureCapacityInternal_0 rfl ?_
  refine y_getA d_AB_ensureCapacityInternal_1 f_AB_15 (fun v1 => ?_)
  refine y_alen d_AB_ensureCapacityInternal_4 (fun v2 => ?_)
  refine y_aload_n d_AB_ensureCapacityInternal_5 rfl ?_
  refine y_getI d_AB_ensureCapacityInternal_6 f_AB_22 (fun v3 => ?_)
  refine y_ishr (v := (v2 >>> (v3 &&& 31))) d_AB_ensureCapacityInternal_9 rfl ?_
  refine y_istore_n (loc2 := [some (.ref a0), some (.int a1), some (.int (v2 >>> (v3 &&& 31)))]) d_AB_ensureCapacityInternal_10 (Nat.le_of_ble_eq_true rfl) rfl rfl ?_
  refine y_iload_n d_AB_ensureCapacityInternal_11 rfl ?_
  refine y_iload_n d_AB_ensureCapacityInternal_12 rfl ?_
  refine y_isub (v := (a1 - (v2 >>> (v3 &&& 31)))) d_AB_ensureCapacityInternal_13 rfl ?_
  refine y_if_le (tgt := 38) d_AB_ensureCapacityInternal_14 (by decide) ?_ ?_
  · exact y_retU d_AB_ensureCapacityInternal_38 rfl
  · refine y_aload_n d_AB_ensureCapacityInternal_17 rfl ?_
    refine y_aload_n d_AB_ensureCapacityInternal_18 rfl ?_
    refine y_getA d_AB_ensureCapacityInternal_19 f_AB_15 (fun v4 => ?_)
    refine y_aload_n d_AB_ensureCapacityInternal_22 rfl ?_
    refine y_iload_n d_AB_ensureCapacityInternal_23 rfl ?_
    refine y_gO (fun fs1 g1 => y_cI (c_un (rest := [.ref v4, .ref a0]) d_AB_ensureCapacityInternal_24 k_AB_newCapacity s_AB_104 (Or.inl ⟨_, _, _, g1, rfl, rfl⟩) rfl rfl (Nat.le_of_ble_eq_true rfl) (Nat.le_trans (Nat.le_of_ble_eq_true rfl : 2 + 1 ≤ 3) hD) (S_AB_newCapacity hfl (Nat.le_refl _) h a0 a1)) (fun v6 h5 => ?_))
    refine y_aload_n d_AB_ensureCapacityInternal_27 rfl ?_
    refine y_getI d_AB_ensureCapacityInternal_28 f_AB_22 (fun v7 => ?_)
    refine y_ishl (v := (v6 <<< (v7 &&& 31))) d_AB_ensureCapacityInternal_31 rfl ?_
    refine y_cA (c_st (rest := [.ref a0]) d_AB_ensureCapacityInternal_32 k_AR_copyOf s_AB_108 rfl rfl (Nat.le_of_ble_eq_true rfl) (Nat.le_trans (Nat.le_of_ble_eq_true rfl : 1 + 1 ≤ 3) hD) (S_AR_copyOf hfl (Nat.le_refl _) h5 v4 (v6 <<< (v7 &&& 31)))) (fun v9 h8 => ?_)
    refine y_put d_AB_ensureCapacityInternal_35 p_AB_15 rfl rfl (fun h10 => ?_)
    exact y_retU d_AB_ensureCapacityInternal_38 rfl
noncomputable def P_AB_isLatin1 (Θ : mW) (N : Nat) (h : mH) (a0 : Nat) : Option (Int32 × mH) :=
  (if (1 : Int32) = 0 then (some ((J 0), h)) else (bo (rI Θ h 8 a0 1) (fun v1 => (if v1 = 0 then (some ((J 1), h)) else (some ((J 0), h))))))
theorem S_AB_isLatin1 (hfl : HF l Θ) (hD : 1 ≤ d) (h : mH) (a0 : Nat) : mMs l Θ d M_AB_isLatin1 [.ref a0] h (tR vI) (P_AB_isLatin1 Θ N h a0) := by
  refine mMs.of hfl (by decide +kernel) rfl (Nat.le_of_ble_eq_true rfl) (loc := [some (.ref a0)]) rfl ?_
  unfold P_AB_isLatin1
  refine y_getstatic d_AB_isLatin1_0 t_AB_18 (List.mem_of_getElem? (i := 0) rfl) ?_
  refine y_if_eq (tgt := 17) d_AB_isLatin1_3 (by decide) ?_ ?_
  · refine y_iconst (v := (J 0)) d_AB_isLatin1_17 rfl ?_
    exact y_retI d_AB_isLatin1_18 rfl (by decide +kernel)
  · refine y_aload_n d_AB_isLatin1_6 rfl ?_
    refine y_getI d_AB_isLatin1_7 f_AB_22 (fun v1 => ?_)
    refine y_if_ne (tgt := 17) d_AB_isLatin1_10 (by decide) ?_ ?_
    · refine y_iconst (v := (J 0)) d_AB_isLatin1_17 rfl ?_
      exact y_retI d_AB_isLatin1_18 rfl (by decide +kernel)
    · refine y_iconst (v := (J 1)) d_AB_isLatin1_13 rfl ?_
      refine y_goto (tgt := 18) d_AB_isLatin1_14 (by decide) ?_
      exact y_retI d_AB_isLatin1_18 rfl (by decide +kernel)
noncomputable def P_AB_setLength (Θ : mW) (N : Nat) (h : mH) (a0 : Nat) (a1 : Int32) : Option (Unit × mH) :=
  (if 0 ≤ a1 then (gO Θ h 8 a0 (bc (P_AB_ensureCapacityInternal Θ N h a0 a1) (fun v2 h1 => (bo (rI Θ h1 8 a0 3) (fun v3 => (if a1 ≤ v3 then (bo (rI Θ h1 8 a0 3) (fun v4 => (if v4 ≤ a1 then (bo (wF Θ h1 8 a0 3 (.int a1)) (fun h5 => (some ((), h5)))) else (bo (wF Θ h1 8 a0 2 (.int (J 1))) (fun h6 => (bo (wF Θ h6 8 a0 3 (.int a1)) (fun h7 => (some ((), h7))))))))) else (gO Θ h1 8 a0 (bc (P_AB_isLatin1 Θ N h1 a0) (fun v9 h8 => (if v9 = 0 then (bo (rA Θ h8 8 a0 0) (fun v10 => (bo (rI Θ h8 8 a0 3) (fun v11 => none)))) else (bo (rA Θ h8 8 a0 0) (fun v12 => (bo (rI Θ h8 8 a0 3) (fun v13 => none)))))))))))))) else none)
theorem S_AB_setLength (hfl : HF l Θ) (hD : 4 ≤ d) (h : mH) (a0 : Nat) (a1 : Int32) : mMs l Θ d M_AB_setLength [.ref a0, .int a1] h (tR vU) (P_AB_setLength Θ N h a0 a1) := by
  refine mMs.of hfl (by decide +kernel) rfl (Nat.le_of_ble_eq_true rfl) (loc := [some (.ref a0), some (.int a1)]) rfl ?_
  unfold P_AB_setLength
  refine y_iload_n d_AB_setLength_0 rfl ?_
  refine y_if_ge (tgt := 13) d_AB_setLength_1 (by decide) ?_ ?_
  · refine y_aload_n d_AB_setLength_13 rfl ?_
    refine y_iload_n d_AB_setLength_14 rfl ?_
    refine y_gO (fun fs1 g1 => y_cU (c_un (rest := []) d_AB_setLength_15 k_AB_ensureCapacityInternal s_AB_100 (Or.inl ⟨_, _, _, g1, rfl, rfl⟩) rfl rfl (Nat.le_of_ble_eq_true rfl) (Nat.le_trans (Nat.le_of_ble_eq_true rfl : 3 + 1 ≤ 4) hD) (S_AB_ensureCapacityInternal hfl (Nat.le_refl _) h a0 a1)) (fun v2 h1 => ?_))
    refine y_aload_n d_AB_setLength_18 rfl ?_
    refine y_getI d_AB_setLength_19 f_AB_79 (fun v3 => ?_)
    refine y_iload_n d_AB_setLength_22 rfl ?_
    refine y_icmp_ge (tgt := 63) d_AB_setLength_23 (by decide) ?_ ?_
    · refine y_aload_n d_AB_setLength_63 rfl ?_
      refine y_getI d_AB_setLength_64 f_AB_79 (fun v4 => ?_)
      refine y_iload_n d_AB_setLength_67 rfl ?_
      refine y_icmp_le (tgt := 76) d_AB_setLength_68 (by decide) ?_ ?_
      · refine y_aload_n d_AB_setLength_76 rfl ?_
        refine y_iload_n d_AB_setLength_77 rfl ?_
        refine y_put d_AB_setLength_78 p_AB_79 rfl rfl (fun h5 => ?_)
        exact y_retU d_AB_setLength_81 rfl
      · refine y_aload_n d_AB_setLength_71 rfl ?_
        refine y_iconst (v := (J 1)) d_AB_setLength_72 rfl ?_
        refine y_put d_AB_setLength_73 p_AB_73 rfl rfl (fun h6 => ?_)
        refine y_aload_n d_AB_setLength_76 rfl ?_
        refine y_iload_n d_AB_setLength_77 rfl ?_
        refine y_put d_AB_setLength_78 p_AB_79 rfl rfl (fun h7 => ?_)
        exact y_retU d_AB_setLength_81 rfl
    · refine y_aload_n d_AB_setLength_26 rfl ?_
      refine y_gO (fun fs1 g1 => y_cI (c_un (rest := []) d_AB_setLength_27 k_AB_isLatin1 s_AB_83 (Or.inl ⟨_, _, _, g1, rfl, rfl⟩) rfl rfl (Nat.le_of_ble_eq_true rfl) (Nat.le_trans (Nat.le_of_ble_eq_true rfl : 1 + 1 ≤ 4) hD) (S_AB_isLatin1 hfl (Nat.le_refl _) h1 a0)) (fun v9 h8 => ?_))
      refine y_if_eq (tgt := 48) d_AB_setLength_30 (by decide) ?_ ?_
      · refine y_aload_n d_AB_setLength_48 rfl ?_
        refine y_getA d_AB_setLength_49 f_AB_15 (fun v10 => ?_)
        refine y_aload_n d_AB_setLength_52 rfl ?_
        refine y_getI d_AB_setLength_53 f_AB_79 (fun v11 => ?_)
        refine y_iload_n d_AB_setLength_56 rfl ?_
        exact y_none
      · refine y_aload_n d_AB_setLength_33 rfl ?_
        refine y_getA d_AB_setLength_34 f_AB_15 (fun v12 => ?_)
        refine y_aload_n d_AB_setLength_37 rfl ?_
        refine y_getI d_AB_setLength_38 f_AB_79 (fun v13 => ?_)
        refine y_iload_n d_AB_setLength_41 rfl ?_
        exact y_none
  · exact y_none
noncomputable def P_SB_setLength (Θ : mW) (N : Nat) (h : mH) (a0 : Nat) (a1 : Int32) : Option (Unit × mH) :=
  (gO Θ h 8 a0 (bc (P_AB_setLength Θ N h a0 a1) (fun v2 h1 => (some ((), h1)))))
theorem S_SB_setLength (hfl : HF l Θ) (hD : 5 ≤ d) (h : mH) (a0 : Nat) (a1 : Int32) : mMs l Θ d M_SB_setLength [.ref a0, .int a1] h (tR vU) (P_SB_setLength Θ N h a0 a1) := by
  refine mMs.of hfl (by decide +kernel) rfl (Nat.le_of_ble_eq_true rfl) (loc := [some (.ref a0), some (.int a1)]) rfl ?_
  unfold P_SB_setLength
  refine y_aload_n d_SB_setLength_0 rfl ?_
  refine y_iload_n d_SB_setLength_1 rfl ?_
  refine y_gO (fun fs1 g1 => y_cU (c_su (rest := []) d_SB_setLength_2 k_AB_setLength s_SB_333 g1 rfl rfl (Nat.le_of_ble_eq_true rfl) (Nat.le_trans (Nat.le_of_ble_eq_true rfl : 4 + 1 ≤ 5) hD) (S_AB_setLength hfl (Nat.le_refl _) h a0 a1)) (fun v2 h1 => ?_))
  exact y_retU d_SB_setLength_5 rfl
noncomputable def B_IN_getChars_22 (Θ : mW) (N : Nat) (K72 : mH → Int32 → Int32 → Option (Int32 × mH)) (f2_ : Nat) (f6_ : Int32) (rc : mH → Int32 → Int32 → Option (Int32 × mH)) (h : mH) (v0_ : Int32) (v5_ : Int32) : Option (Int32 × mH) :=
  (if (J (-100)) < v0_ then (K72 h v0_ v5_) else (bo (oB8 41 (((v0_ / (J 100)) * (J 100)) - v0_)) (fun v7 => (bo (aW Θ h 4 f2_ (v5_ + (J (-1))) (vp_nar .byte v7)) (fun h8 => (bo (oB8 42 (((v0_ / (J 100)) * (J 100)) - v0_)) (fun v9 => (bo (aW Θ h8 4 f2_ ((v5_ + (J (-1))) + (J (-1))) (vp_nar .byte v9)) (fun h10 => (rc h10 (v0_ / (J 100)) ((v5_ + (J (-1))) + (J (-1)))))))))))))
noncomputable def P_IN_getChars_22 (Θ : mW) (N : Nat) (K72 : mH → Int32 → Int32 → Option (Int32 × mH)) (f2_ : Nat) (f6_ : Int32) : Nat → mH → Int32 → Int32 → Option (Int32 × mH) :=
  lp (fun _ _ _ => none) (B_IN_getChars_22 Θ N K72 f2_ f6_)
noncomputable def P_IN_getChars (Θ : mW) (N : Nat) (h : mH) (a0 : Int32) (a1 : Int32) (a2 : Nat) : Option (Int32 × mH) :=
  (jn (fun (h2 : mH) (s3 : Int32) => (jn (fun (h5 : mH) (u6 : Int32) => (P_IN_getChars_22 Θ N (fun h11 u12 u13 => (bo (oB8 41 (-u12)) (fun v14 => (bo (aW Θ h11 4 a2 (u13 + (J (-1))) (vp_nar .byte v14)) (fun h15 => (jn (fun (h17 : mH) (u18 : Int32) => (if s3 = 0 then (some (u18, h17)) else (bo (aW Θ h17 4 a2 (u18 + (J (-1))) (vp_nar .byte (J 45))) (fun h19 => (some ((u18 + (J (-1))), h19)))))) (fun j16 => (if (J (-9)) ≤ u12 then (j16 h15 (u13 + (J (-1)))) else (bo (oB8 42 (-u12)) (fun v20 => (bo (aW Θ h15 4 a2 ((u13 + (J (-1))) + (J (-1))) (vp_nar .byte v20)) (fun h21 => (j16 h21 ((u13 + (J (-1))) + (J (-1)))))))))))))))) a2 s3 N h5 u6 a1)) (fun j4 => (if s3 = 0 then (j4 h2 (-a0)) else (j4 h2 a0))))) (fun j1 => (if 0 ≤ a0 then (j1 h (J 0)) else (j1 h (J 1)))))
theorem SB_IN_getChars_22 (hfl : HF l Θ) (hD : 1 ≤ d) {K72 : mH → Int32 → Int32 → Option (Int32 × mH)} {f2_ : Nat} {f6_ : Int32}  (hK72 : ∀ (h : mH) (v0_ : Int32) (v5_ : Int32), mY l Θ d M_IN_getChars 72 [some (.int v0_), none, some (.ref f2_), none, none, some (.int v5_), some (.int f6_)] [] h (tR vI) (K72 h v0_ v5_)) (rc : mH → Int32 → Int32 → Option (Int32 × mH)) (ih : ∀ (h : mH) (v0_ : Int32) (v5_ : Int32), mY l Θ d M_IN_getChars 22 [some (.int v0_), none, some (.ref f2_), none, none, some (.int v5_), some (.int f6_)] [] h (tR vI) (rc h v0_ v5_)) : ∀ (h : mH) (v0_ : Int32) (v5_ : Int32), mY l Θ d M_IN_getChars 22 [some (.int v0_), none, some (.ref f2_), none, none, some (.int v5_), some (.int f6_)] [] h (tR vI) (B_IN_getChars_22 Θ N K72 f2_ f6_ rc h v0_ v5_) := by
  intro h v0_ v5_
  unfold B_IN_getChars_22
  refine y_iload_n d_IN_getChars_22 rfl ?_
  refine y_bipush (v := (J (-100))) d_IN_getChars_23 (by decide +kernel) ?_
  refine y_icmp_gt (tgt := 72) d_IN_getChars_25 (by decide) ?_ ?_
  · exact hK72 h v0_ v5_
  · refine y_iload_n d_IN_getChars_28 rfl ?_
    refine y_bipush (v := (J 100)) d_IN_getChars_29 (by decide +kernel) ?_
    refine y_idiv (v := (v0_ / (J 100))) d_IN_getChars_31 (by decide +kernel) rfl ?_
    refine y_istore_n (loc2 := [some (.int v0_), none, some (.ref f2_), some (.int (v0_ / (J 100))), none, some (.int v5_), some (.int f6_)]) d_IN_getChars_32 (Nat.le_of_ble_eq_true rfl) rfl rfl ?_
    refine y_iload_n d_IN_getChars_33 rfl ?_
    refine y_bipush (v := (J 100)) d_IN_getChars_34 (by decide +kernel) ?_
    refine y_imul (v := ((v0_ / (J 100)) * (J 100))) d_IN_getChars_36 rfl ?_
    refine y_iload_n d_IN_getChars_37 rfl ?_
    refine y_isub (v := (((v0_ / (J 100)) * (J 100)) - v0_)) d_IN_getChars_38 rfl ?_
    refine y_istore (loc2 := [some (.int v0_), none, some (.ref f2_), some (.int (v0_ / (J 100))), some (.int (((v0_ / (J 100)) * (J 100)) - v0_)), some (.int v5_), some (.int f6_)]) d_IN_getChars_39 (Nat.le_of_ble_eq_true rfl) rfl rfl ?_
    refine y_iload_n d_IN_getChars_41 rfl ?_
    refine y_istore_n (loc2 := [some (.int (v0_ / (J 100))), none, some (.ref f2_), some (.int (v0_ / (J 100))), some (.int (((v0_ / (J 100)) * (J 100)) - v0_)), some (.int v5_), some (.int f6_)]) d_IN_getChars_42 (Nat.le_of_ble_eq_true rfl) rfl rfl ?_
    refine y_aload_n d_IN_getChars_43 rfl ?_
    refine y_iinc (v := (v5_ + (J (-1)))) (loc2 := [some (.int (v0_ / (J 100))), none, some (.ref f2_), some (.int (v0_ / (J 100))), some (.int (((v0_ / (J 100)) * (J 100)) - v0_)), some (.int (v5_ + (J (-1)))), some (.int f6_)]) d_IN_getChars_44 rfl rfl (Nat.le_of_ble_eq_true rfl) rfl rfl ?_
    refine y_iload d_IN_getChars_47 rfl ?_
    refine y_getstatic d_IN_getChars_49 t_IN_83 (List.mem_of_getElem? (i := 3) rfl) ?_
    refine y_iload d_IN_getChars_52 rfl ?_
    refine y_old8 d_IN_getChars_54 (fun v7 => ?_)
    refine y_bast d_IN_getChars_55 (fun h8 => ?_)
    refine y_aload_n d_IN_getChars_56 rfl ?_
    refine y_iinc (v := ((v5_ + (J (-1))) + (J (-1)))) (loc2 := [some (.int (v0_ / (J 100))), none, some (.ref f2_), some (.int (v0_ / (J 100))), some (.int (((v0_ / (J 100)) * (J 100)) - v0_)), some (.int ((v5_ + (J (-1))) + (J (-1)))), some (.int f6_)]) d_IN_getChars_57 rfl rfl (Nat.le_of_ble_eq_true rfl) rfl rfl ?_
    refine y_iload d_IN_getChars_60 rfl ?_
    refine y_getstatic d_IN_getChars_62 t_IN_87 (List.mem_of_getElem? (i := 4) rfl) ?_
    refine y_iload d_IN_getChars_65 rfl ?_
    refine y_old8 d_IN_getChars_67 (fun v9 => ?_)
    refine y_bast d_IN_getChars_68 (fun h10 => ?_)
    refine y_goto (tgt := 22) d_IN_getChars_69 (by decide) ?_
    exact y_wk (loc2 := [some (.int (v0_ / (J 100))), none, some (.ref f2_), none, none, some (.int ((v5_ + (J (-1))) + (J (-1)))), some (.int f6_)]) ⟨rfl, ⟨rfl, ⟨rfl, ⟨rfl, trivial⟩⟩⟩⟩ (ih h10 (v0_ / (J 100)) ((v5_ + (J (-1))) + (J (-1))))
theorem S_IN_getChars_22 (hfl : HF l Θ) (hD : 1 ≤ d) {K72 : mH → Int32 → Int32 → Option (Int32 × mH)} {f2_ : Nat} {f6_ : Int32}  (hK72 : ∀ (h : mH) (v0_ : Int32) (v5_ : Int32), mY l Θ d M_IN_getChars 72 [some (.int v0_), none, some (.ref f2_), none, none, some (.int v5_), some (.int f6_)] [] h (tR vI) (K72 h v0_ v5_)) : ∀ (n : Nat) (h : mH) (v0_ : Int32) (v5_ : Int32), mY l Θ d M_IN_getChars 22 [some (.int v0_), none, some (.ref f2_), none, none, some (.int v5_), some (.int f6_)] [] h (tR vI) (P_IN_getChars_22 Θ N K72 f2_ f6_ n h v0_ v5_) :=
  fun n => lp_all (C := fun (rc : mH → Int32 → Int32 → Option (Int32 × mH)) => ∀ (h : mH) (v0_ : Int32) (v5_ : Int32), mY l Θ d M_IN_getChars 22 [some (.int v0_), none, some (.ref f2_), none, none, some (.int v5_), some (.int f6_)] [] h (tR vI) (rc h v0_ v5_)) (fun _ _ _ => y_none) (fun rc ih => SB_IN_getChars_22 hfl hD hK72 rc ih) n
theorem S_IN_getChars (hfl : HF l Θ) (hD : 1 ≤ d) (h : mH) (a0 : Int32) (a1 : Int32) (a2 : Nat) : mMs l Θ d M_IN_getChars [.int a0, .int a1, .ref a2] h (tR vI) (P_IN_getChars Θ N h a0 a1 a2) := by
  refine mMs.of hfl (by decide +kernel) rfl (Nat.le_of_ble_eq_true rfl) (loc := [some (.int a0), some (.int a1), some (.ref a2), none, none, none, none]) rfl ?_
  unfold P_IN_getChars
  refine y_iload_n d_IN_getChars_0 rfl ?_
  refine y_istore (loc2 := [some (.int a0), some (.int a1), some (.ref a2), none, none, some (.int a1), none]) d_IN_getChars_1 (Nat.le_of_ble_eq_true rfl) rfl rfl ?_
  refine y_iload_n d_IN_getChars_3 rfl ?_
  refine y_jn (C := fun (j9 : mH → Int32 → Option (Int32 × mH)) => ∀ (h2 : mH) (s3 : Int32), mY l Θ d M_IN_getChars 12 [some (.int a0), none, some (.ref a2), none, none, some (.int a1), none] [.int s3] h2 (tR vI) (j9 h2 s3)) (fun h2 s3 => ?_) (fun j1 Hj1 => ?_)
  · refine y_istore (loc2 := [some (.int a0), none, some (.ref a2), none, none, some (.int a1), some (.int s3)]) d_IN_getChars_12 (Nat.le_of_ble_eq_true rfl) rfl rfl ?_
    refine y_iload d_IN_getChars_14 rfl ?_
    refine y_jn (C := fun (j9 : mH → Int32 → Option (Int32 × mH)) => ∀ (h5 : mH) (u6 : Int32), mY l Θ d M_IN_getChars 22 [some (.int u6), none, some (.ref a2), none, none, some (.int a1), some (.int s3)] [] h5 (tR vI) (j9 h5 u6)) (fun h5 u6 => ?_) (fun j4 Hj4 => ?_)
    · refine S_IN_getChars_22 hfl hD (fun h11 u12 u13 => ?_) N h5 u6 a1
      refine y_aload_n d_IN_getChars_72 rfl ?_
      refine y_iinc (v := (u13 + (J (-1)))) (loc2 := [some (.int u12), none, some (.ref a2), none, none, some (.int (u13 + (J (-1)))), some (.int s3)]) d_IN_getChars_73 rfl rfl (Nat.le_of_ble_eq_true rfl) rfl rfl ?_
      refine y_iload d_IN_getChars_76 rfl ?_
      refine y_getstatic d_IN_getChars_78 t_IN_83 (List.mem_of_getElem? (i := 3) rfl) ?_
      refine y_iload_n d_IN_getChars_81 rfl ?_
      refine y_ineg (v := (-u12)) d_IN_getChars_82 rfl ?_
      refine y_old8 d_IN_getChars_83 (fun v14 => ?_)
      refine y_bast d_IN_getChars_84 (fun h15 => ?_)
      refine y_iload_n d_IN_getChars_85 rfl ?_
      refine y_bipush (v := (J (-9))) d_IN_getChars_86 (by decide +kernel) ?_
      refine y_jn (C := fun (j9 : mH → Int32 → Option (Int32 × mH)) => ∀ (h17 : mH) (u18 : Int32), mY l Θ d M_IN_getChars 104 [none, none, some (.ref a2), none, none, some (.int u18), some (.int s3)] [] h17 (tR vI) (j9 h17 u18)) (fun h17 u18 => ?_) (fun j16 Hj16 => ?_)
      · refine y_iload d_IN_getChars_104 rfl ?_
        refine y_if_eq (tgt := 118) d_IN_getChars_106 (by decide) ?_ ?_
        · refine y_iload d_IN_getChars_118 rfl ?_
          exact y_retI d_IN_getChars_120 rfl rfl
        · refine y_aload_n d_IN_getChars_109 rfl ?_
          refine y_iinc (v := (u18 + (J (-1)))) (loc2 := [none, none, some (.ref a2), none, none, some (.int (u18 + (J (-1)))), some (.int s3)]) d_IN_getChars_110 rfl rfl (Nat.le_of_ble_eq_true rfl) rfl rfl ?_
          refine y_iload d_IN_getChars_113 rfl ?_
          refine y_bipush (v := (J 45)) d_IN_getChars_115 (by decide +kernel) ?_
          refine y_bast d_IN_getChars_117 (fun h19 => ?_)
          refine y_iload d_IN_getChars_118 rfl ?_
          exact y_retI d_IN_getChars_120 rfl rfl
      · refine y_icmp_ge (tgt := 104) d_IN_getChars_88 (by decide) ?_ ?_
        · exact y_wk (loc2 := [none, none, some (.ref a2), none, none, some (.int (u13 + (J (-1)))), some (.int s3)]) ⟨rfl, ⟨rfl, ⟨rfl, trivial⟩⟩⟩ (Hj16 h15 (u13 + (J (-1))))
        · refine y_aload_n d_IN_getChars_91 rfl ?_
          refine y_iinc (v := ((u13 + (J (-1))) + (J (-1)))) (loc2 := [some (.int u12), none, some (.ref a2), none, none, some (.int ((u13 + (J (-1))) + (J (-1)))), some (.int s3)]) d_IN_getChars_92 rfl rfl (Nat.le_of_ble_eq_true rfl) rfl rfl ?_
          refine y_iload d_IN_getChars_95 rfl ?_
          refine y_getstatic d_IN_getChars_97 t_IN_87 (List.mem_of_getElem? (i := 4) rfl) ?_
          refine y_iload_n d_IN_getChars_100 rfl ?_
          refine y_ineg (v := (-u12)) d_IN_getChars_101 rfl ?_
          refine y_old8 d_IN_getChars_102 (fun v20 => ?_)
          refine y_bast d_IN_getChars_103 (fun h21 => ?_)
          exact y_wk (loc2 := [none, none, some (.ref a2), none, none, some (.int ((u13 + (J (-1))) + (J (-1)))), some (.int s3)]) ⟨rfl, ⟨rfl, ⟨rfl, trivial⟩⟩⟩ (Hj16 h21 ((u13 + (J (-1))) + (J (-1))))
    · refine y_if_ne (tgt := 22) d_IN_getChars_16 (by decide) ?_ ?_
      · exact Hj4 h2 a0
      · refine y_iload_n d_IN_getChars_19 rfl ?_
        refine y_ineg (v := (-a0)) d_IN_getChars_20 rfl ?_
        refine y_istore_n (loc2 := [some (.int (-a0)), none, some (.ref a2), none, none, some (.int a1), some (.int s3)]) d_IN_getChars_21 (Nat.le_of_ble_eq_true rfl) rfl rfl ?_
        exact Hj4 h2 (-a0)
  · refine y_if_ge (tgt := 11) d_IN_getChars_4 (by decide) ?_ ?_
    · refine y_iconst (v := (J 0)) d_IN_getChars_11 rfl ?_
      exact y_wk (loc2 := [some (.int a0), none, some (.ref a2), none, none, some (.int a1), none]) ⟨rfl, ⟨rfl, ⟨rfl, trivial⟩⟩⟩ (Hj1 h (J 0))
    · refine y_iconst (v := (J 1)) d_IN_getChars_7 rfl ?_
      refine y_goto (tgt := 12) d_IN_getChars_8 (by decide) ?_
      exact y_wk (loc2 := [some (.int a0), none, some (.ref a2), none, none, some (.int a1), none]) ⟨rfl, ⟨rfl, ⟨rfl, trivial⟩⟩⟩ (Hj1 h (J 1))
noncomputable def B_IN_stringSize_16 (Θ : mW) (N : Nat) (K42 : mH → Option (Int32 × mH)) (f0_ : Int32) (f1_ : Int32) (rc : mH → Int32 → Int32 → Option (Int32 × mH)) (h : mH) (v2_ : Int32) (v3_ : Int32) : Option (Int32 × mH) :=
  (if (J 10) ≤ v3_ then (K42 h) else (if f0_ ≤ v2_ then (rc h ((J 10) * v2_) (v3_ + (J 1))) else (some ((v3_ + f1_), h))))
noncomputable def P_IN_stringSize_16 (Θ : mW) (N : Nat) (K42 : mH → Option (Int32 × mH)) (f0_ : Int32) (f1_ : Int32) : Nat → mH → Int32 → Int32 → Option (Int32 × mH) :=
  lp (fun _ _ _ => none) (B_IN_stringSize_16 Θ N K42 f0_ f1_)
noncomputable def P_IN_stringSize (Θ : mW) (N : Nat) (h : mH) (a0 : Int32) : Option (Int32 × mH) :=
  (jn (fun (h2 : mH) (u3 : Int32) (u4 : Int32) => (P_IN_stringSize_16 Θ N (fun h5 => (some (((J 10) + u4), h5))) u3 u4 N h2 (J (-10)) (J 1))) (fun j1 => (if a0 < 0 then (j1 h a0 (J 1)) else (j1 h (-a0) (J 0)))))
theorem SB_IN_stringSize_16 (hfl : HF l Θ) (hD : 1 ≤ d) {K42 : mH → Option (Int32 × mH)} {f0_ : Int32} {f1_ : Int32}  (hK42 : ∀ (h : mH), mY l Θ d M_IN_stringSize 42 [none, some (.int f1_), none, none] [] h (tR vI) (K42 h)) (rc : mH → Int32 → Int32 → Option (Int32 × mH)) (ih : ∀ (h : mH) (v2_ : Int32) (v3_ : Int32), mY l Θ d M_IN_stringSize 16 [some (.int f0_), some (.int f1_), some (.int v2_), some (.int v3_)] [] h (tR vI) (rc h v2_ v3_)) : ∀ (h : mH) (v2_ : Int32) (v3_ : Int32), mY l Θ d M_IN_stringSize 16 [some (.int f0_), some (.int f1_), some (.int v2_), some (.int v3_)] [] h (tR vI) (B_IN_stringSize_16 Θ N K42 f0_ f1_ rc h v2_ v3_) := by
  intro h v2_ v3_
  unfold B_IN_stringSize_16
  refine y_iload_n d_IN_stringSize_16 rfl ?_
  refine y_bipush (v := (J 10)) d_IN_stringSize_17 (by decide +kernel) ?_
  refine y_icmp_ge (tgt := 42) d_IN_stringSize_19 (by decide) ?_ ?_
  · exact y_wk (loc2 := [none, some (.int f1_), none, none]) ⟨rfl, trivial⟩ (hK42 h)
  · refine y_iload_n d_IN_stringSize_22 rfl ?_
    refine y_iload_n d_IN_stringSize_23 rfl ?_
    refine y_icmp_le (tgt := 31) d_IN_stringSize_24 (by decide) ?_ ?_
    · refine y_bipush (v := (J 10)) d_IN_stringSize_31 (by decide +kernel) ?_
      refine y_iload_n d_IN_stringSize_33 rfl ?_
      refine y_imul (v := ((J 10) * v2_)) d_IN_stringSize_34 rfl ?_
      refine y_istore_n (loc2 := [some (.int f0_), some (.int f1_), some (.int ((J 10) * v2_)), some (.int v3_)]) d_IN_stringSize_35 (Nat.le_of_ble_eq_true rfl) rfl rfl ?_
      refine y_iinc (v := (v3_ + (J 1))) (loc2 := [some (.int f0_), some (.int f1_), some (.int ((J 10) * v2_)), some (.int (v3_ + (J 1)))]) d_IN_stringSize_36 rfl rfl (Nat.le_of_ble_eq_true rfl) rfl rfl ?_
      refine y_goto (tgt := 16) d_IN_stringSize_39 (by decide) ?_
      exact ih h ((J 10) * v2_) (v3_ + (J 1))
    · refine y_iload_n d_IN_stringSize_27 rfl ?_
      refine y_iload_n d_IN_stringSize_28 rfl ?_
      refine y_iadd (v := (v3_ + f1_)) d_IN_stringSize_29 rfl ?_
      exact y_retI d_IN_stringSize_30 rfl rfl
theorem S_IN_stringSize_16 (hfl : HF l Θ) (hD : 1 ≤ d) {K42 : mH → Option (Int32 × mH)} {f0_ : Int32} {f1_ : Int32}  (hK42 : ∀ (h : mH), mY l Θ d M_IN_stringSize 42 [none, some (.int f1_), none, none] [] h (tR vI) (K42 h)) : ∀ (n : Nat) (h : mH) (v2_ : Int32) (v3_ : Int32), mY l Θ d M_IN_stringSize 16 [some (.int f0_), some (.int f1_), some (.int v2_), some (.int v3_)] [] h (tR vI) (P_IN_stringSize_16 Θ N K42 f0_ f1_ n h v2_ v3_) :=
  fun n => lp_all (C := fun (rc : mH → Int32 → Int32 → Option (Int32 × mH)) => ∀ (h : mH) (v2_ : Int32) (v3_ : Int32), mY l Θ d M_IN_stringSize 16 [some (.int f0_), some (.int f1_), some (.int v2_), some (.int v3_)] [] h (tR vI) (rc h v2_ v3_)) (fun _ _ _ => y_none) (fun rc ih => SB_IN_stringSize_16 hfl hD hK42 rc ih) n
theorem S_IN_stringSize (hfl : HF l Θ) (hD : 1 ≤ d) (h : mH) (a0 : Int32) : mMs l Θ d M_IN_stringSize [.int a0] h (tR vI) (P_IN_stringSize Θ N h a0) := by
  refine mMs.of hfl (by decide +kernel) rfl (Nat.le_of_ble_eq_true rfl) (loc := [some (.int a0), none, none, none]) rfl ?_
  unfold P_IN_stringSize
  refine y_iconst (v := (J 1)) d_IN_stringSize_0 rfl ?_
  refine y_istore_n (loc2 := [some (.int a0), some (.int (J 1)), none, none]) d_IN_stringSize_1 (Nat.le_of_ble_eq_true rfl) rfl rfl ?_
  refine y_iload_n d_IN_stringSize_2 rfl ?_
  refine y_jn (C := fun (j9 : mH → Int32 → Int32 → Option (Int32 × mH)) => ∀ (h2 : mH) (u3 : Int32) (u4 : Int32), mY l Θ d M_IN_stringSize 11 [some (.int u3), some (.int u4), none, none] [] h2 (tR vI) (j9 h2 u3 u4)) (fun h2 u3 u4 => ?_) (fun j1 Hj1 => ?_)
  · refine y_bipush (v := (J (-10))) d_IN_stringSize_11 (by decide +kernel) ?_
    refine y_istore_n (loc2 := [some (.int u3), some (.int u4), some (.int (J (-10))), none]) d_IN_stringSize_13 (Nat.le_of_ble_eq_true rfl) rfl rfl ?_
    refine y_iconst (v := (J 1)) d_IN_stringSize_14 rfl ?_
    refine y_istore_n (loc2 := [some (.int u3), some (.int u4), some (.int (J (-10))), some (.int (J 1))]) d_IN_stringSize_15 (Nat.le_of_ble_eq_true rfl) rfl rfl ?_
    refine S_IN_stringSize_16 hfl hD (fun h5 => ?_) N h2 (J (-10)) (J 1)
    refine y_bipush (v := (J 10)) d_IN_stringSize_42 (by decide +kernel) ?_
    refine y_iload_n d_IN_stringSize_44 rfl ?_
    refine y_iadd (v := ((J 10) + u4)) d_IN_stringSize_45 rfl ?_
    exact y_retI d_IN_stringSize_46 rfl rfl
  · refine y_if_lt (tgt := 11) d_IN_stringSize_3 (by decide) ?_ ?_
    · exact Hj1 h a0 (J 1)
    · refine y_iconst (v := (J 0)) d_IN_stringSize_6 rfl ?_
      refine y_istore_n (loc2 := [some (.int a0), some (.int (J 0)), none, none]) d_IN_stringSize_7 (Nat.le_of_ble_eq_true rfl) rfl rfl ?_
      refine y_iload_n d_IN_stringSize_8 rfl ?_
      refine y_ineg (v := (-a0)) d_IN_stringSize_9 rfl ?_
      refine y_istore_n (loc2 := [some (.int (-a0)), some (.int (J 0)), none, none]) d_IN_stringSize_10 (Nat.le_of_ble_eq_true rfl) rfl rfl ?_
      exact Hj1 h (-a0) (J 0)
noncomputable def P_AB_append_I (Θ : mW) (N : Nat) (h : mH) (a0 : Nat) (a1 : Int32) : Option (Nat × mH) :=
  (bo (rI Θ h 8 a0 3) (fun v1 => (bc (P_IN_stringSize Θ N h a1) (fun v3 h2 => (gO Θ h2 8 a0 (bc (P_AB_ensureCapacityInternal Θ N h2 a0 (v1 + v3)) (fun v5 h4 => (gO Θ h4 8 a0 (bc (P_AB_isLatin1 Θ N h4 a0) (fun v7 h6 => (if v7 = 0 then (bo (rA Θ h6 8 a0 0) (fun v8 => none)) else (bo (rA Θ h6 8 a0 0) (fun v9 => (bc (P_IN_getChars Θ N h6 a1 (v1 + v3) v9) (fun v11 h10 => (bo (wF Θ h10 8 a0 3 (.int (v1 + v3))) (fun h12 => (some (a0, h12)))))))))))))))))))
theorem S_AB_append_I (hfl : HF l Θ) (hD : 4 ≤ d) (h : mH) (a0 : Nat) (a1 : Int32) : mMs l Θ d M_AB_append_I [.ref a0, .int a1] h (tR vA) (P_AB_append_I Θ N h a0 a1) := by
  refine mMs.of hfl (by decide +kernel) rfl (Nat.le_of_ble_eq_true rfl) (loc := [some (.ref a0), some (.int a1), none, none]) rfl ?_
  unfold P_AB_append_I
  refine y_aload_n d_AB_append_I_0 rfl ?_
  refine y_getI d_AB_append_I_1 f_AB_79 (fun v1 => ?_)
  refine y_istore_n (loc2 := [some (.ref a0), some (.int a1), some (.int v1), none]) d_AB_append_I_4 (Nat.le_of_ble_eq_true rfl) rfl rfl ?_
  refine y_iload_n d_AB_append_I_5 rfl ?_
  refine y_iload_n d_AB_append_I_6 rfl ?_
  refine y_cI (c_st (rest := [.int v1]) d_AB_append_I_7 k_IN_stringSize s_AB_245 rfl rfl (Nat.le_of_ble_eq_true rfl) (Nat.le_trans (Nat.le_of_ble_eq_true rfl : 1 + 1 ≤ 4) hD) (S_IN_stringSize hfl (Nat.le_refl _) h a1)) (fun v3 h2 => ?_)
  refine y_iadd (v := (v1 + v3)) d_AB_append_I_10 rfl ?_
  refine y_istore_n (loc2 := [some (.ref a0), some (.int a1), some (.int v1), some (.int (v1 + v3))]) d_AB_append_I_11 (Nat.le_of_ble_eq_true rfl) rfl rfl ?_
  refine y_aload_n d_AB_append_I_12 rfl ?_
  refine y_iload_n d_AB_append_I_13 rfl ?_
  refine y_gO (fun fs1 g1 => y_cU (c_un (rest := []) d_AB_append_I_14 k_AB_ensureCapacityInternal s_AB_100 (Or.inl ⟨_, _, _, g1, rfl, rfl⟩) rfl rfl (Nat.le_of_ble_eq_true rfl) (Nat.le_trans (Nat.le_of_ble_eq_true rfl : 3 + 1 ≤ 4) hD) (S_AB_ensureCapacityInternal hfl (Nat.le_refl _) h2 a0 (v1 + v3))) (fun v5 h4 => ?_))
  refine y_aload_n d_AB_append_I_17 rfl ?_
  refine y_gO (fun fs1 g1 => y_cI (c_un (rest := []) d_AB_append_I_18 k_AB_isLatin1 s_AB_83 (Or.inl ⟨_, _, _, g1, rfl, rfl⟩) rfl rfl (Nat.le_of_ble_eq_true rfl) (Nat.le_trans (Nat.le_of_ble_eq_true rfl : 1 + 1 ≤ 4) hD) (S_AB_isLatin1 hfl (Nat.le_refl _) h4 a0)) (fun v7 h6 => ?_))
  refine y_if_eq (tgt := 37) d_AB_append_I_21 (by decide) ?_ ?_
  · refine y_iload_n d_AB_append_I_37 rfl ?_
    refine y_iload_n d_AB_append_I_38 rfl ?_
    refine y_iload_n d_AB_append_I_39 rfl ?_
    refine y_aload_n d_AB_append_I_40 rfl ?_
    refine y_getA d_AB_append_I_41 f_AB_15 (fun v8 => ?_)
    exact y_none
  · refine y_iload_n d_AB_append_I_24 rfl ?_
    refine y_iload_n d_AB_append_I_25 rfl ?_
    refine y_aload_n d_AB_append_I_26 rfl ?_
    refine y_getA d_AB_append_I_27 f_AB_15 (fun v9 => ?_)
    refine y_cI (c_st (rest := []) d_AB_append_I_30 k_IN_getChars s_AB_248 rfl rfl (Nat.le_of_ble_eq_true rfl) (Nat.le_trans (Nat.le_of_ble_eq_true rfl : 1 + 1 ≤ 4) hD) (S_IN_getChars hfl (Nat.le_refl _) h6 a1 (v1 + v3) v9)) (fun v11 h10 => ?_)
    refine y_pop d_AB_append_I_33 rfl ?_
    refine y_goto (tgt := 48) d_AB_append_I_34 (by decide) ?_
    refine y_aload_n d_AB_append_I_48 rfl ?_
    refine y_iload_n d_AB_append_I_49 rfl ?_
    refine y_put d_AB_append_I_50 p_AB_79 rfl rfl (fun h12 => ?_)
    refine y_aload_n d_AB_append_I_53 rfl ?_
    exact y_retA d_AB_append_I_54 rfl (Or.inl ⟨_, rfl⟩)
noncomputable def P_SB_append_I (Θ : mW) (N : Nat) (h : mH) (a0 : Nat) (a1 : Int32) : Option (Nat × mH) :=
  (gO Θ h 8 a0 (bc (P_AB_append_I Θ N h a0 a1) (fun v2 h1 => (some (a0, h1)))))
theorem S_SB_append_I (hfl : HF l Θ) (hD : 5 ≤ d) (h : mH) (a0 : Nat) (a1 : Int32) : mMs l Θ d M_SB_append_I [.ref a0, .int a1] h (tR vA) (P_SB_append_I Θ N h a0 a1) := by
  refine mMs.of hfl (by decide +kernel) rfl (Nat.le_of_ble_eq_true rfl) (loc := [some (.ref a0), some (.int a1)]) rfl ?_
  unfold P_SB_append_I
  refine y_aload_n d_SB_append_I_0 rfl ?_
  refine y_iload_n d_SB_append_I_1 rfl ?_
  refine y_gO (fun fs1 g1 => y_cA (c_su (rest := []) d_SB_append_I_2 k_AB_append_I s_SB_53 g1 rfl rfl (Nat.le_of_ble_eq_true rfl) (Nat.le_trans (Nat.le_of_ble_eq_true rfl : 4 + 1 ≤ 5) hD) (S_AB_append_I hfl (Nat.le_refl _) h a0 a1)) (fun v2 h1 => ?_))
  refine y_pop d_SB_append_I_5 rfl ?_
  refine y_aload_n d_SB_append_I_6 rfl ?_
  exact y_retA d_SB_append_I_7 rfl (Or.inl ⟨_, rfl⟩)
noncomputable def P_AB_length (Θ : mW) (N : Nat) (h : mH) (a0 : Nat) : Option (Int32 × mH) :=
  (bo (rI Θ h 8 a0 3) (fun v1 => (some (v1, h))))
theorem S_AB_length (hfl : HF l Θ) (hD : 1 ≤ d) (h : mH) (a0 : Nat) : mMs l Θ d M_AB_length [.ref a0] h (tR vI) (P_AB_length Θ N h a0) := by
  refine mMs.of hfl (by decide +kernel) rfl (Nat.le_of_ble_eq_true rfl) (loc := [some (.ref a0)]) rfl ?_
  unfold P_AB_length
  refine y_aload_n d_AB_length_0 rfl ?_
  refine y_getI d_AB_length_1 f_AB_79 (fun v1 => ?_)
  exact y_retI d_AB_length_4 rfl rfl
noncomputable def P_SB_length (Θ : mW) (N : Nat) (h : mH) (a0 : Nat) : Option (Int32 × mH) :=
  (gO Θ h 8 a0 (bc (P_AB_length Θ N h a0) (fun v2 h1 => (some (v2, h1)))))
theorem S_SB_length (hfl : HF l Θ) (hD : 2 ≤ d) (h : mH) (a0 : Nat) : mMs l Θ d M_SB_length [.ref a0] h (tR vI) (P_SB_length Θ N h a0) := by
  refine mMs.of hfl (by decide +kernel) rfl (Nat.le_of_ble_eq_true rfl) (loc := [some (.ref a0)]) rfl ?_
  unfold P_SB_length
  refine y_aload_n d_SB_length_0 rfl ?_
  refine y_gO (fun fs1 g1 => y_cI (c_su (rest := []) d_SB_length_1 k_AB_length s_SB_343 g1 rfl rfl (Nat.le_of_ble_eq_true rfl) (Nat.le_trans (Nat.le_of_ble_eq_true rfl : 1 + 1 ≤ 2) hD) (S_AB_length hfl (Nat.le_refl _) h a0)) (fun v2 h1 => ?_))
  exact y_retI d_SB_length_4 rfl rfl
noncomputable def P_S1_canEncode (Θ : mW) (N : Nat) (h : mH) (a0 : Int32) : Option (Int32 × mH) :=
  (if (J 255) < a0 then (some ((J 0), h)) else (some ((J 1), h)))
theorem S_S1_canEncode (hfl : HF l Θ) (hD : 1 ≤ d) (h : mH) (a0 : Int32) : mMs l Θ d M_S1_canEncode [.int a0] h (tR vI) (P_S1_canEncode Θ N h a0) := by
  refine mMs.of hfl (by decide +kernel) rfl (Nat.le_of_ble_eq_true rfl) (loc := [some (.int a0)]) rfl ?_
  unfold P_S1_canEncode
  refine y_iload_n d_S1_canEncode_0 rfl ?_
  refine y_sipush (v := (J 255)) d_S1_canEncode_1 (by decide +kernel) ?_
  refine y_icmp_gt (tgt := 11) d_S1_canEncode_4 (by decide) ?_ ?_
  · refine y_iconst (v := (J 0)) d_S1_canEncode_11 rfl ?_
    exact y_retI d_S1_canEncode_12 rfl (by decide +kernel)
  · refine y_iconst (v := (J 1)) d_S1_canEncode_7 rfl ?_
    refine y_goto (tgt := 12) d_S1_canEncode_8 (by decide) ?_
    exact y_retI d_S1_canEncode_12 rfl (by decide +kernel)
noncomputable def P_AB_append_C (Θ : mW) (N : Nat) (h : mH) (a0 : Nat) (a1 : Int32) : Option (Nat × mH) :=
  (bo (rI Θ h 8 a0 3) (fun v1 => (gO Θ h 8 a0 (bc (P_AB_ensureCapacityInternal Θ N h a0 (v1 + (J 1))) (fun v3 h2 => (gO Θ h2 8 a0 (bc (P_AB_isLatin1 Θ N h2 a0) (fun v5 h4 => (jn (fun (h7 : mH) => (gO Θ h7 8 a0 (bc (P_AB_isLatin1 Θ N h7 a0) (fun v9 h8 => (if v9 = 0 then (bo (rA Θ h8 8 a0 0) (fun v10 => (bo (rI Θ h8 8 a0 3) (fun v11 => (bo (wF Θ h8 8 a0 3 (.int (v11 + (J 1)))) (fun h12 => none)))))) else none))))) (fun j6 => (if v5 = 0 then (j6 h4) else (bc (P_S1_canEncode Θ N h4 a1) (fun v14 h13 => (if v14 = 0 then (j6 h13) else (bo (rA Θ h13 8 a0 0) (fun v15 => (bo (rI Θ h13 8 a0 3) (fun v16 => (bo (wF Θ h13 8 a0 3 (.int (v16 + (J 1)))) (fun h17 => (bo (aW Θ h17 4 v15 v16 (vp_nar .byte ((a1).toInt8.toInt32))) (fun h18 => (some (a0, h18))))))))))))))))))))))))
theorem S_AB_append_C (hfl : HF l Θ) (hD : 4 ≤ d) (h : mH) (a0 : Nat) (a1 : Int32) : mMs l Θ d M_AB_append_C [.ref a0, .int a1] h (tR vA) (P_AB_append_C Θ N h a0 a1) := by
  refine mMs.of hfl (by decide +kernel) rfl (Nat.le_of_ble_eq_true rfl) (loc := [some (.ref a0), some (.int a1)]) rfl ?_
  unfold P_AB_append_C
  refine y_aload_n d_AB_append_C_0 rfl ?_
  refine y_aload_n d_AB_append_C_1 rfl ?_
  refine y_getI d_AB_append_C_2 f_AB_79 (fun v1 => ?_)
  refine y_iconst (v := (J 1)) d_AB_append_C_5 rfl ?_
  refine y_iadd (v := (v1 + (J 1))) d_AB_append_C_6 rfl ?_
  refine y_gO (fun fs1 g1 => y_cU (c_un (rest := []) d_AB_append_C_7 k_AB_ensureCapacityInternal s_AB_100 (Or.inl ⟨_, _, _, g1, rfl, rfl⟩) rfl rfl (Nat.le_of_ble_eq_true rfl) (Nat.le_trans (Nat.le_of_ble_eq_true rfl : 3 + 1 ≤ 4) hD) (S_AB_ensureCapacityInternal hfl (Nat.le_refl _) h a0 (v1 + (J 1)))) (fun v3 h2 => ?_))
  refine y_aload_n d_AB_append_C_10 rfl ?_
  refine y_gO (fun fs1 g1 => y_cI (c_un (rest := []) d_AB_append_C_11 k_AB_isLatin1 s_AB_83 (Or.inl ⟨_, _, _, g1, rfl, rfl⟩) rfl rfl (Nat.le_of_ble_eq_true rfl) (Nat.le_trans (Nat.le_of_ble_eq_true rfl : 1 + 1 ≤ 4) hD) (S_AB_isLatin1 hfl (Nat.le_refl _) h2 a0)) (fun v5 h4 => ?_))
  refine y_jn (C := fun (j9 : mH → Option (Nat × mH)) => ∀ (h7 : mH), mY l Θ d M_AB_append_C 45 [some (.ref a0), some (.int a1)] [] h7 (tR vA) (j9 h7)) (fun h7 => ?_) (fun j6 Hj6 => ?_)
  · refine y_aload_n d_AB_append_C_45 rfl ?_
    refine y_gO (fun fs1 g1 => y_cI (c_un (rest := []) d_AB_append_C_46 k_AB_isLatin1 s_AB_83 (Or.inl ⟨_, _, _, g1, rfl, rfl⟩) rfl rfl (Nat.le_of_ble_eq_true rfl) (Nat.le_trans (Nat.le_of_ble_eq_true rfl : 1 + 1 ≤ 4) hD) (S_AB_isLatin1 hfl (Nat.le_refl _) h7 a0)) (fun v9 h8 => ?_))
    refine y_if_eq (tgt := 56) d_AB_append_C_49 (by decide) ?_ ?_
    · refine y_aload_n d_AB_append_C_56 rfl ?_
      refine y_getA d_AB_append_C_57 f_AB_15 (fun v10 => ?_)
      refine y_aload_n d_AB_append_C_60 rfl ?_
      refine y_dup d_AB_append_C_61 rfl ?_
      refine y_getI d_AB_append_C_62 f_AB_79 (fun v11 => ?_)
      refine y_dup_x1 d_AB_append_C_65 rfl rfl ?_
      refine y_iconst (v := (J 1)) d_AB_append_C_66 rfl ?_
      refine y_iadd (v := (v11 + (J 1))) d_AB_append_C_67 rfl ?_
      refine y_put d_AB_append_C_68 p_AB_79 rfl rfl (fun h12 => ?_)
      refine y_iload_n d_AB_append_C_71 rfl ?_
      exact y_none
    · refine y_aload_n d_AB_append_C_52 rfl ?_
      exact y_none
  · refine y_if_eq (tgt := 45) d_AB_append_C_14 (by decide) ?_ ?_
    · exact Hj6 h4
    · refine y_iload_n d_AB_append_C_17 rfl ?_
      refine y_cI (c_st (rest := []) d_AB_append_C_18 k_S1_canEncode s_AB_191 rfl rfl (Nat.le_of_ble_eq_true rfl) (Nat.le_trans (Nat.le_of_ble_eq_true rfl : 1 + 1 ≤ 4) hD) (S_S1_canEncode hfl (Nat.le_refl _) h4 a1)) (fun v14 h13 => ?_)
      refine y_if_eq (tgt := 45) d_AB_append_C_21 (by decide) ?_ ?_
      · exact Hj6 h13
      · refine y_aload_n d_AB_append_C_24 rfl ?_
        refine y_getA d_AB_append_C_25 f_AB_15 (fun v15 => ?_)
        refine y_aload_n d_AB_append_C_28 rfl ?_
        refine y_dup d_AB_append_C_29 rfl ?_
        refine y_getI d_AB_append_C_30 f_AB_79 (fun v16 => ?_)
        refine y_dup_x1 d_AB_append_C_33 rfl rfl ?_
        refine y_iconst (v := (J 1)) d_AB_append_C_34 rfl ?_
        refine y_iadd (v := (v16 + (J 1))) d_AB_append_C_35 rfl ?_
        refine y_put d_AB_append_C_36 p_AB_79 rfl rfl (fun h17 => ?_)
        refine y_iload_n d_AB_append_C_39 rfl ?_
        refine y_i2b (v := ((a1).toInt8.toInt32)) d_AB_append_C_40 rfl ?_
        refine y_bast d_AB_append_C_41 (fun h18 => ?_)
        refine y_goto (tgt := 75) d_AB_append_C_42 (by decide) ?_
        refine y_aload_n d_AB_append_C_75 rfl ?_
        exact y_retA d_AB_append_C_76 rfl (Or.inl ⟨_, rfl⟩)
noncomputable def P_SB_append_C (Θ : mW) (N : Nat) (h : mH) (a0 : Nat) (a1 : Int32) : Option (Nat × mH) :=
  (gO Θ h 8 a0 (bc (P_AB_append_C Θ N h a0 a1) (fun v2 h1 => (some (a0, h1)))))
theorem S_SB_append_C (hfl : HF l Θ) (hD : 5 ≤ d) (h : mH) (a0 : Nat) (a1 : Int32) : mMs l Θ d M_SB_append_C [.ref a0, .int a1] h (tR vA) (P_SB_append_C Θ N h a0 a1) := by
  refine mMs.of hfl (by decide +kernel) rfl (Nat.le_of_ble_eq_true rfl) (loc := [some (.ref a0), some (.int a1)]) rfl ?_
  unfold P_SB_append_C
  refine y_aload_n d_SB_append_C_0 rfl ?_
  refine y_iload_n d_SB_append_C_1 rfl ?_
  refine y_gO (fun fs1 g1 => y_cA (c_su (rest := []) d_SB_append_C_2 k_AB_append_C s_SB_50 g1 rfl rfl (Nat.le_of_ble_eq_true rfl) (Nat.le_trans (Nat.le_of_ble_eq_true rfl : 4 + 1 ≤ 5) hD) (S_AB_append_C hfl (Nat.le_refl _) h a0 a1)) (fun v2 h1 => ?_))
  refine y_pop d_SB_append_C_5 rfl ?_
  refine y_aload_n d_SB_append_C_6 rfl ?_
  exact y_retA d_SB_append_C_7 rfl (Or.inl ⟨_, rfl⟩)
noncomputable def P_PR_checkIndex (Θ : mW) (N : Nat) (h : mH) (a0 : Int32) (a1 : Int32) : Option (Int32 × mH) :=
  (if a0 < 0 then none else (if a0 < a1 then (some (a0, h)) else none))
theorem S_PR_checkIndex (hfl : HF l Θ) (hD : 1 ≤ d) (h : mH) (a0 : Int32) (a1 : Int32) : mMs l Θ d M_PR_checkIndex [.int a0, .int a1, (mwsq Θ)] h (tR vI) (P_PR_checkIndex Θ N h a0 a1) := by
  refine mMs.of hfl (by decide +kernel) (by simp only [List.all_cons, List.all_nil, hfl.2]; rfl) (Nat.le_of_ble_eq_true rfl) (loc := [some (.int a0), some (.int a1), some ((mwsq Θ))]) rfl ?_
  unfold P_PR_checkIndex
  refine y_iload_n d_PR_checkIndex_0 rfl ?_
  refine y_if_lt (tgt := 9) d_PR_checkIndex_1 (by decide) ?_ ?_
  · exact y_none
  · refine y_iload_n d_PR_checkIndex_4 rfl ?_
    refine y_iload_n d_PR_checkIndex_5 rfl ?_
    refine y_icmp_lt (tgt := 16) d_PR_checkIndex_6 (by decide) ?_ ?_
    · refine y_iload_n d_PR_checkIndex_16 rfl ?_
      exact y_retI d_PR_checkIndex_17 rfl rfl
    · exact y_none
noncomputable def P_ST_checkIndex (Θ : mW) (N : Nat) (h : mH) (a0 : Int32) (a1 : Int32) : Option (Unit × mH) :=
  (bc (P_PR_checkIndex Θ N h a0 a1) (fun v2 h1 => (some ((), h1))))
theorem S_ST_checkIndex (hfl : HF l Θ) (hD : 2 ≤ d) (h : mH) (a0 : Int32) (a1 : Int32) : mMs l Θ d M_ST_checkIndex [.int a0, .int a1] h (tR vU) (P_ST_checkIndex Θ N h a0 a1) := by
  refine mMs.of hfl (by decide +kernel) rfl (Nat.le_of_ble_eq_true rfl) (loc := [some (.int a0), some (.int a1)]) rfl ?_
  unfold P_ST_checkIndex
  refine y_iload_n d_ST_checkIndex_0 rfl ?_
  refine y_iload_n d_ST_checkIndex_1 rfl ?_
  refine y_getstatic d_ST_checkIndex_2 t_ST_1053 (List.mem_of_getElem? (i := 2) rfl) ?_
  refine y_cI (c_st (rest := []) d_ST_checkIndex_5 k_PR_checkIndex s_ST_1059 rfl rfl (Nat.le_of_ble_eq_true rfl) (Nat.le_trans (Nat.le_of_ble_eq_true rfl : 1 + 1 ≤ 2) hD) (S_PR_checkIndex hfl (Nat.le_refl _) h a0 a1)) (fun v2 h1 => ?_)
  refine y_pop d_ST_checkIndex_8 rfl ?_
  exact y_retU d_ST_checkIndex_9 rfl
noncomputable def P_S1_charAt (Θ : mW) (N : Nat) (h : mH) (a0 : Nat) (a1 : Int32) : Option (Int32 × mH) :=
  (bo (aNs Θ h a0) (fun v1 => (bc (P_ST_checkIndex Θ N h a1 v1) (fun v3 h2 => (bo (aRs Θ h2 a0 a1) (fun v4 => (if 0 ≤ ((((v4 &&& (J 255))).toUInt32 % 65536).toInt32) ∧ ((((v4 &&& (J 255))).toUInt32 % 65536).toInt32) ≤ 65535 then some (((((v4 &&& (J 255))).toUInt32 % 65536).toInt32), h2) else none)))))))
theorem S_S1_charAt (hfl : HF l Θ) (hD : 3 ≤ d) (h : mH) (a0 : Nat) (a1 : Int32) : mMs l Θ d M_S1_charAt [.ref a0, .int a1] h (tR vI) (P_S1_charAt Θ N h a0 a1) := by
  refine mMs.of hfl (by decide +kernel) rfl (Nat.le_of_ble_eq_true rfl) (loc := [some (.ref a0), some (.int a1)]) rfl ?_
  unfold P_S1_charAt
  refine y_iload_n d_S1_charAt_0 rfl ?_
  refine y_aload_n d_S1_charAt_1 rfl ?_
  refine y_alens' mTXT_ok d_S1_charAt_2 (fun v1 => ?_)
  refine y_cU (c_st (rest := []) d_S1_charAt_3 k_ST_checkIndex s_S1_9 rfl rfl (Nat.le_of_ble_eq_true rfl) (Nat.le_trans (Nat.le_of_ble_eq_true rfl : 2 + 1 ≤ 3) hD) (S_ST_checkIndex hfl (Nat.le_refl _) h a1 v1)) (fun v3 h2 => ?_)
  refine y_aload_n d_S1_charAt_6 rfl ?_
  refine y_iload_n d_S1_charAt_7 rfl ?_
  refine y_balds' mTXT_ok d_S1_charAt_8 (fun v4 => ?_)
  refine y_sipush (v := (J 255)) d_S1_charAt_9 (by decide +kernel) ?_
  refine y_iand (v := (v4 &&& (J 255))) d_S1_charAt_12 rfl ?_
  refine y_i2c (v := ((((v4 &&& (J 255))).toUInt32 % 65536).toInt32)) d_S1_charAt_13 rfl ?_
  exact y_gC (fun hn => y_retI d_S1_charAt_14 rfl hn)
noncomputable def P_ST_isLatin1 (Θ : mW) (N : Nat) (h : mH) (a0 : Nat) : Option (Int32 × mH) :=
  (if (1 : Int32) = 0 then (some ((J 0), h)) else (bo (rSc Θ h a0) (fun v1 => (if v1 = 0 then (some ((J 1), h)) else (some ((J 0), h))))))
theorem S_ST_isLatin1 (hfl : HF l Θ) (hD : 1 ≤ d) (h : mH) (a0 : Nat) : mMs l Θ d M_ST_isLatin1 [.ref a0] h (tR vI) (P_ST_isLatin1 Θ N h a0) := by
  refine mMs.of hfl (by decide +kernel) rfl (Nat.le_of_ble_eq_true rfl) (loc := [some (.ref a0)]) rfl ?_
  unfold P_ST_isLatin1
  refine y_getstatic d_ST_isLatin1_0 t_ST_38 (List.mem_of_getElem? (i := 0) rfl) ?_
  refine y_if_eq (tgt := 17) d_ST_isLatin1_3 (by decide) ?_ ?_
  · refine y_iconst (v := (J 0)) d_ST_isLatin1_17 rfl ?_
    exact y_retI d_ST_isLatin1_18 rfl (by decide +kernel)
  · refine y_aload_n d_ST_isLatin1_6 rfl ?_
    refine y_getSc' mTXT_ok d_ST_isLatin1_7 f_ST_15 o_ST_15 (fun v1 => ?_)
    refine y_if_ne (tgt := 17) d_ST_isLatin1_10 (by decide) ?_ ?_
    · refine y_iconst (v := (J 0)) d_ST_isLatin1_17 rfl ?_
      exact y_retI d_ST_isLatin1_18 rfl (by decide +kernel)
    · refine y_iconst (v := (J 1)) d_ST_isLatin1_13 rfl ?_
      refine y_goto (tgt := 18) d_ST_isLatin1_14 (by decide) ?_
      exact y_retI d_ST_isLatin1_18 rfl (by decide +kernel)
noncomputable def P_ST_charAt (Θ : mW) (N : Nat) (h : mH) (a0 : Nat) (a1 : Int32) : Option (Int32 × mH) :=
  (gS Θ h a0 (bc (P_ST_isLatin1 Θ N h a0) (fun v2 h1 => (if v2 = 0 then (bo (rSv Θ h1 a0) (fun v3 => none)) else (bo (rSv Θ h1 a0) (fun v4 => (bc (P_S1_charAt Θ N h1 v4 a1) (fun v6 h5 => (if 0 ≤ v6 ∧ v6 ≤ 65535 then some (v6, h5) else none)))))))))
theorem S_ST_charAt (hfl : HF l Θ) (hD : 4 ≤ d) (h : mH) (a0 : Nat) (a1 : Int32) : mMs l Θ d M_ST_charAt [.ref a0, .int a1] h (tR vI) (P_ST_charAt Θ N h a0 a1) := by
  refine mMs.of hfl (by decide +kernel) rfl (Nat.le_of_ble_eq_true rfl) (loc := [some (.ref a0), some (.int a1)]) rfl ?_
  unfold P_ST_charAt
  refine y_aload_n d_ST_charAt_0 rfl ?_
  refine y_gS' mTXT_ok ⟨_, rfl, rfl⟩ (fun g1 => y_cI (c_vi (rest := []) d_ST_charAt_1 k_ST_isLatin1 s_ST_492 g1 rfl rfl (Nat.le_of_ble_eq_true rfl) (Nat.le_trans (Nat.le_of_ble_eq_true rfl : 1 + 1 ≤ 4) hD) (S_ST_isLatin1 hfl (Nat.le_refl _) h a0)) (fun v2 h1 => ?_))
  refine y_if_eq (tgt := 16) d_ST_charAt_4 (by decide) ?_ ?_
  · refine y_aload_n d_ST_charAt_16 rfl ?_
    refine y_getSv' mTXT_ok d_ST_charAt_17 f_ST_9 o_ST_9 (fun v3 => ?_)
    refine y_iload_n d_ST_charAt_20 rfl ?_
    exact y_none
  · refine y_aload_n d_ST_charAt_7 rfl ?_
    refine y_getSv' mTXT_ok d_ST_charAt_8 f_ST_9 o_ST_9 (fun v4 => ?_)
    refine y_iload_n d_ST_charAt_11 rfl ?_
    refine y_cI (c_st (rest := []) d_ST_charAt_12 k_S1_charAt s_ST_495 rfl rfl (Nat.le_of_ble_eq_true rfl) (Nat.le_trans (Nat.le_of_ble_eq_true rfl : 3 + 1 ≤ 4) hD) (S_S1_charAt hfl (Nat.le_refl _) h1 v4 a1)) (fun v6 h5 => ?_)
    exact y_gC (fun hn => y_retI d_ST_charAt_15 rfl hn)
noncomputable def P_ST_coder (Θ : mW) (N : Nat) (h : mH) (a0 : Nat) : Option (Int32 × mH) :=
  (if (1 : Int32) = 0 then (if ((J 1)).toInt8.toInt32 = (J 1) ∧ fits .byte (.int (J 1)) = true then some ((J 1), h) else none) else (bo (rSc Θ h a0) (fun v1 => (if (v1).toInt8.toInt32 = v1 ∧ fits .byte (.int v1) = true then some (v1, h) else none))))
theorem S_ST_coder (hfl : HF l Θ) (hD : 1 ≤ d) (h : mH) (a0 : Nat) : mMs l Θ d M_ST_coder [.ref a0] h (tR vI) (P_ST_coder Θ N h a0) := by
  refine mMs.of hfl (by decide +kernel) rfl (Nat.le_of_ble_eq_true rfl) (loc := [some (.ref a0)]) rfl ?_
  unfold P_ST_coder
  refine y_getstatic d_ST_coder_0 t_ST_38 (List.mem_of_getElem? (i := 0) rfl) ?_
  refine y_if_eq (tgt := 13) d_ST_coder_3 (by decide) ?_ ?_
  · refine y_iconst (v := (J 1)) d_ST_coder_13 rfl ?_
    exact y_gB (fun hn _ => y_retI d_ST_coder_14 rfl hn)
  · refine y_aload_n d_ST_coder_6 rfl ?_
    refine y_getSc' mTXT_ok d_ST_coder_7 f_ST_15 o_ST_15 (fun v1 => ?_)
    refine y_goto (tgt := 14) d_ST_coder_10 (by decide) ?_
    exact y_gB (fun hn _ => y_retI d_ST_coder_14 rfl hn)
noncomputable def P_ST_length (Θ : mW) (N : Nat) (h : mH) (a0 : Nat) : Option (Int32 × mH) :=
  (bo (rSv Θ h a0) (fun v1 => (bo (aNs Θ h v1) (fun v2 => (gS Θ h a0 (bc (P_ST_coder Θ N h a0) (fun v4 h3 => (some ((v2 >>> (v4 &&& 31)), h3)))))))))
theorem S_ST_length (hfl : HF l Θ) (hD : 2 ≤ d) (h : mH) (a0 : Nat) : mMs l Θ d M_ST_length [.ref a0] h (tR vI) (P_ST_length Θ N h a0) := by
  refine mMs.of hfl (by decide +kernel) rfl (Nat.le_of_ble_eq_true rfl) (loc := [some (.ref a0)]) rfl ?_
  unfold P_ST_length
  refine y_aload_n d_ST_length_0 rfl ?_
  refine y_getSv' mTXT_ok d_ST_length_1 f_ST_9 o_ST_9 (fun v1 => ?_)
  refine y_alens' mTXT_ok d_ST_length_4 (fun v2 => ?_)
  refine y_aload_n d_ST_length_5 rfl ?_
  refine y_gS' mTXT_ok ⟨_, rfl, rfl⟩ (fun g1 => y_cI (c_vi (rest := [.int v2]) d_ST_length_6 k_ST_coder s_ST_335 g1 rfl rfl (Nat.le_of_ble_eq_true rfl) (Nat.le_trans (Nat.le_of_ble_eq_true rfl : 1 + 1 ≤ 2) hD) (S_ST_coder hfl (Nat.le_refl _) h a0)) (fun v4 h3 => ?_))
  refine y_ishr (v := (v2 >>> (v4 &&& 31))) d_ST_length_9 rfl ?_
  exact y_retI d_ST_length_10 rfl rfl
noncomputable def P_AB_charAt (Θ : mW) (N : Nat) (h : mH) (a0 : Nat) (a1 : Int32) : Option (Int32 × mH) :=
  (bo (rI Θ h 8 a0 1) (fun v1 => (bo (rA Θ h 8 a0 0) (fun v2 => (bo (rI Θ h 8 a0 3) (fun v3 => (bo (aN Θ h v2) (fun v4 => (bc (P_ST_checkIndex Θ N h a1 (mnI v3 (v4 >>> (v1 &&& 31)))) (fun v6 h5 => (if v1 = 0 then (bo (aR Θ h5 4 v2 a1) (fun v7 => (if 0 ≤ ((((v7 &&& (J 255))).toUInt32 % 65536).toInt32) ∧ ((((v7 &&& (J 255))).toUInt32 % 65536).toInt32) ≤ 65535 then some (((((v7 &&& (J 255))).toUInt32 % 65536).toInt32), h5) else none))) else none)))))))))))
theorem S_AB_charAt (hfl : HF l Θ) (hD : 3 ≤ d) (h : mH) (a0 : Nat) (a1 : Int32) : mMs l Θ d M_AB_charAt [.ref a0, .int a1] h (tR vI) (P_AB_charAt Θ N h a0 a1) := by
  refine mMs.of hfl (by decide +kernel) rfl (Nat.le_of_ble_eq_true rfl) (loc := [some (.ref a0), some (.int a1), none, none, none]) rfl ?_
  unfold P_AB_charAt
  refine y_aload_n d_AB_charAt_0 rfl ?_
  refine y_getI d_AB_charAt_1 f_AB_22 (fun v1 => ?_)
  refine y_istore_n (loc2 := [some (.ref a0), some (.int a1), some (.int v1), none, none]) d_AB_charAt_4 (Nat.le_of_ble_eq_true rfl) rfl rfl ?_
  refine y_aload_n d_AB_charAt_5 rfl ?_
  refine y_getA d_AB_charAt_6 f_AB_15 (fun v2 => ?_)
  refine y_astore_n (loc2 := [some (.ref a0), some (.int a1), some (.int v1), some (.ref v2), none]) d_AB_charAt_9 (Nat.le_of_ble_eq_true rfl) rfl rfl ?_
  refine y_aload_n d_AB_charAt_10 rfl ?_
  refine y_getI d_AB_charAt_11 f_AB_79 (fun v3 => ?_)
  refine y_aload_n d_AB_charAt_14 rfl ?_
  refine y_alen d_AB_charAt_15 (fun v4 => ?_)
  refine y_iload_n d_AB_charAt_16 rfl ?_
  refine y_ishr (v := (v4 >>> (v1 &&& 31))) d_AB_charAt_17 rfl ?_
  refine y_mmin d_AB_charAt_18 s_AB_138.1 s_AB_138.2 k_MA_min.2.2.2.2.2 (mG (2, 239) (by decide +kernel)) (Nat.le_of_ble_eq_true rfl) (Nat.le_trans (Nat.le_of_ble_eq_true rfl) hD) ?_
  refine y_istore (loc2 := [some (.ref a0), some (.int a1), some (.int v1), some (.ref v2), some (.int (mnI v3 (v4 >>> (v1 &&& 31))))]) d_AB_charAt_21 (Nat.le_of_ble_eq_true rfl) rfl rfl ?_
  refine y_iload_n d_AB_charAt_23 rfl ?_
  refine y_iload d_AB_charAt_24 rfl ?_
  refine y_cU (c_st (rest := []) d_AB_charAt_26 k_ST_checkIndex s_AB_144 rfl rfl (Nat.le_of_ble_eq_true rfl) (Nat.le_trans (Nat.le_of_ble_eq_true rfl : 2 + 1 ≤ 3) hD) (S_ST_checkIndex hfl (Nat.le_refl _) h a1 (mnI v3 (v4 >>> (v1 &&& 31))))) (fun v6 h5 => ?_)
  refine y_iload_n d_AB_charAt_29 rfl ?_
  refine y_if_ne (tgt := 42) d_AB_charAt_30 (by decide) ?_ ?_
  · refine y_aload_n d_AB_charAt_42 rfl ?_
    refine y_iload_n d_AB_charAt_43 rfl ?_
    exact y_none
  · refine y_aload_n d_AB_charAt_33 rfl ?_
    refine y_iload_n d_AB_charAt_34 rfl ?_
    refine y_bald d_AB_charAt_35 (fun v7 => ?_)
    refine y_sipush (v := (J 255)) d_AB_charAt_36 (by decide +kernel) ?_
    refine y_iand (v := (v7 &&& (J 255))) d_AB_charAt_39 rfl ?_
    refine y_i2c (v := ((((v7 &&& (J 255))).toUInt32 % 65536).toInt32)) d_AB_charAt_40 rfl ?_
    exact y_gC (fun hn => y_retI d_AB_charAt_41 rfl hn)
noncomputable def P_SB_charAt (Θ : mW) (N : Nat) (h : mH) (a0 : Nat) (a1 : Int32) : Option (Int32 × mH) :=
  (gO Θ h 8 a0 (bc (P_AB_charAt Θ N h a0 a1) (fun v2 h1 => (if 0 ≤ v2 ∧ v2 ≤ 65535 then some (v2, h1) else none))))
theorem S_SB_charAt (hfl : HF l Θ) (hD : 4 ≤ d) (h : mH) (a0 : Nat) (a1 : Int32) : mMs l Θ d M_SB_charAt [.ref a0, .int a1] h (tR vI) (P_SB_charAt Θ N h a0 a1) := by
  refine mMs.of hfl (by decide +kernel) rfl (Nat.le_of_ble_eq_true rfl) (loc := [some (.ref a0), some (.int a1)]) rfl ?_
  unfold P_SB_charAt
  refine y_aload_n d_SB_charAt_0 rfl ?_
  refine y_iload_n d_SB_charAt_1 rfl ?_
  refine y_gO (fun fs1 g1 => y_cI (c_su (rest := []) d_SB_charAt_2 k_AB_charAt s_SB_329 g1 rfl rfl (Nat.le_of_ble_eq_true rfl) (Nat.le_trans (Nat.le_of_ble_eq_true rfl : 3 + 1 ≤ 4) hD) (S_AB_charAt hfl (Nat.le_refl _) h a0 a1)) (fun v2 h1 => ?_))
  exact y_gC (fun hn => y_retI d_SB_charAt_5 rfl hn)
noncomputable def P_AB_inflateIfNeededFor (Θ : mW) (N : Nat) (h : mH) (a0 : Nat) (a1 : Nat) : Option (Unit × mH) :=
  (if (1 : Int32) = 0 then (some ((), h)) else (bo (rI Θ h 8 a0 1) (fun v1 => (gS Θ h a1 (bc (P_ST_coder Θ N h a1) (fun v3 h2 => (if v1 = v3 then (some ((), h2)) else none)))))))
theorem S_AB_inflateIfNeededFor (hfl : HF l Θ) (hD : 2 ≤ d) (h : mH) (a0 : Nat) (a1 : Nat) : mMs l Θ d M_AB_inflateIfNeededFor [.ref a0, .ref a1] h (tR vU) (P_AB_inflateIfNeededFor Θ N h a0 a1) := by
  refine mMs.of hfl (by decide +kernel) rfl (Nat.le_of_ble_eq_true rfl) (loc := [some (.ref a0), some (.ref a1)]) rfl ?_
  unfold P_AB_inflateIfNeededFor
  refine y_getstatic d_AB_inflateIfNeededFor_0 t_AB_18 (List.mem_of_getElem? (i := 0) rfl) ?_
  refine y_if_eq (tgt := 21) d_AB_inflateIfNeededFor_3 (by decide) ?_ ?_
  · exact y_retU d_AB_inflateIfNeededFor_21 rfl
  · refine y_aload_n d_AB_inflateIfNeededFor_6 rfl ?_
    refine y_getI d_AB_inflateIfNeededFor_7 f_AB_22 (fun v1 => ?_)
    refine y_aload_n d_AB_inflateIfNeededFor_10 rfl ?_
    refine y_gS' mTXT_ok ⟨_, rfl, rfl⟩ (fun g1 => y_cI (c_vi (rest := [.int v1]) d_AB_inflateIfNeededFor_11 k_ST_coder s_AB_40 g1 rfl rfl (Nat.le_of_ble_eq_true rfl) (Nat.le_trans (Nat.le_of_ble_eq_true rfl : 1 + 1 ≤ 2) hD) (S_ST_coder hfl (Nat.le_refl _) h a1)) (fun v3 h2 => ?_))
    refine y_icmp_eq (tgt := 21) d_AB_inflateIfNeededFor_14 (by decide) ?_ ?_
    · exact y_retU d_AB_inflateIfNeededFor_21 rfl
    · refine y_aload_n d_AB_inflateIfNeededFor_17 rfl ?_
      exact y_none
noncomputable def P_ST_getBytes (Θ : mW) (N : Nat) (h : mH) (a0 : Nat) (a1 : Nat) (a2 : Int32) (a3 : Int32) : Option (Unit × mH) :=
  (gS Θ h a0 (bc (P_ST_coder Θ N h a0) (fun v2 h1 => (if v2 = a3 then (bo (rSv Θ h1 a0) (fun v6 => (bo (rSv Θ h1 a0) (fun v7 => (bo (aNs Θ h1 v7) (fun v8 => (bo (cpBs Θ h1 v6 (J 0) a1 (a2 <<< (a3 &&& 31)) v8) (fun h9 => (some ((), h9)))))))))) else (bo (rSv Θ h1 a0) (fun v3 => (bo (rSv Θ h1 a0) (fun v4 => (bo (aNs Θ h1 v4) (fun v5 => none))))))))))
theorem S_ST_getBytes (hfl : HF l Θ) (hD : 2 ≤ d) (h : mH) (a0 : Nat) (a1 : Nat) (a2 : Int32) (a3 : Int32) : mMs l Θ d M_ST_getBytes [.ref a0, .ref a1, .int a2, .int a3] h (tR vU) (P_ST_getBytes Θ N h a0 a1 a2 a3) := by
  refine mMs.of hfl (by decide +kernel) rfl (Nat.le_of_ble_eq_true rfl) (loc := [some (.ref a0), some (.ref a1), some (.int a2), some (.int a3)]) rfl ?_
  unfold P_ST_getBytes
  refine y_aload_n d_ST_getBytes_0 rfl ?_
  refine y_gS' mTXT_ok ⟨_, rfl, rfl⟩ (fun g1 => y_cI (c_vi (rest := []) d_ST_getBytes_1 k_ST_coder s_ST_335 g1 rfl rfl (Nat.le_of_ble_eq_true rfl) (Nat.le_trans (Nat.le_of_ble_eq_true rfl : 1 + 1 ≤ 2) hD) (S_ST_coder hfl (Nat.le_refl _) h a0)) (fun v2 h1 => ?_))
  refine y_iload_n d_ST_getBytes_4 rfl ?_
  refine y_icmp_ne (tgt := 28) d_ST_getBytes_5 (by decide) ?_ ?_
  · refine y_aload_n d_ST_getBytes_28 rfl ?_
    refine y_getSv' mTXT_ok d_ST_getBytes_29 f_ST_9 o_ST_9 (fun v3 => ?_)
    refine y_iconst (v := (J 0)) d_ST_getBytes_32 rfl ?_
    refine y_aload_n d_ST_getBytes_33 rfl ?_
    refine y_iload_n d_ST_getBytes_34 rfl ?_
    refine y_aload_n d_ST_getBytes_35 rfl ?_
    refine y_getSv' mTXT_ok d_ST_getBytes_36 f_ST_9 o_ST_9 (fun v4 => ?_)
    refine y_alens' mTXT_ok d_ST_getBytes_39 (fun v5 => ?_)
    exact y_none
  · refine y_aload_n d_ST_getBytes_8 rfl ?_
    refine y_getSv' mTXT_ok d_ST_getBytes_9 f_ST_9 o_ST_9 (fun v6 => ?_)
    refine y_iconst (v := (J 0)) d_ST_getBytes_12 rfl ?_
    refine y_aload_n d_ST_getBytes_13 rfl ?_
    refine y_iload_n d_ST_getBytes_14 rfl ?_
    refine y_iload_n d_ST_getBytes_15 rfl ?_
    refine y_ishl (v := (a2 <<< (a3 &&& 31))) d_ST_getBytes_16 rfl ?_
    refine y_aload_n d_ST_getBytes_17 rfl ?_
    refine y_getSv' mTXT_ok d_ST_getBytes_18 f_ST_9 o_ST_9 (fun v7 => ?_)
    refine y_alens' mTXT_ok d_ST_getBytes_21 (fun v8 => ?_)
    refine y_acopyS' mTXT_ok d_ST_getBytes_22 s_ST_212 (mG (2, 135) (by decide +kernel)) (mG (2, 134) (by decide +kernel)) (mG (1, 15) (by decide +kernel)) (Nat.le_of_ble_eq_true rfl) (Nat.le_trans (Nat.le_of_ble_eq_true rfl) hD) (fun h9 => ?_)
    refine y_goto (tgt := 43) d_ST_getBytes_25 (by decide) ?_
    exact y_retU d_ST_getBytes_43 rfl
noncomputable def P_AB_putStringAt (Θ : mW) (N : Nat) (h : mH) (a0 : Nat) (a1 : Int32) (a2 : Nat) : Option (Unit × mH) :=
  (gO Θ h 8 a0 (bc (P_AB_inflateIfNeededFor Θ N h a0 a2) (fun v2 h1 => (bo (rA Θ h1 8 a0 0) (fun v3 => (bo (rI Θ h1 8 a0 1) (fun v4 => (gS Θ h1 a2 (bc (P_ST_getBytes Θ N h1 a2 v3 a1 v4) (fun v6 h5 => (some ((), h5))))))))))))
theorem S_AB_putStringAt (hfl : HF l Θ) (hD : 3 ≤ d) (h : mH) (a0 : Nat) (a1 : Int32) (a2 : Nat) : mMs l Θ d M_AB_putStringAt [.ref a0, .int a1, .ref a2] h (tR vU) (P_AB_putStringAt Θ N h a0 a1 a2) := by
  refine mMs.of hfl (by decide +kernel) rfl (Nat.le_of_ble_eq_true rfl) (loc := [some (.ref a0), some (.int a1), some (.ref a2)]) rfl ?_
  unfold P_AB_putStringAt
  refine y_aload_n d_AB_putStringAt_0 rfl ?_
  refine y_aload_n d_AB_putStringAt_1 rfl ?_
  refine y_gO (fun fs1 g1 => y_cU (c_un (rest := []) d_AB_putStringAt_2 k_AB_inflateIfNeededFor s_AB_397 (Or.inl ⟨_, _, _, g1, rfl, rfl⟩) rfl rfl (Nat.le_of_ble_eq_true rfl) (Nat.le_trans (Nat.le_of_ble_eq_true rfl : 2 + 1 ≤ 3) hD) (S_AB_inflateIfNeededFor hfl (Nat.le_refl _) h a0 a2)) (fun v2 h1 => ?_))
  refine y_aload_n d_AB_putStringAt_5 rfl ?_
  refine y_aload_n d_AB_putStringAt_6 rfl ?_
  refine y_getA d_AB_putStringAt_7 f_AB_15 (fun v3 => ?_)
  refine y_iload_n d_AB_putStringAt_10 rfl ?_
  refine y_aload_n d_AB_putStringAt_11 rfl ?_
  refine y_getI d_AB_putStringAt_12 f_AB_22 (fun v4 => ?_)
  refine y_gS' mTXT_ok ⟨_, rfl, rfl⟩ (fun g1 => y_cU (c_vi (rest := []) d_AB_putStringAt_15 k_ST_getBytes s_AB_399 g1 rfl rfl (Nat.le_of_ble_eq_true rfl) (Nat.le_trans (Nat.le_of_ble_eq_true rfl : 2 + 1 ≤ 3) hD) (S_ST_getBytes hfl (Nat.le_refl _) h1 a2 v3 a1 v4)) (fun v6 h5 => ?_))
  exact y_retU d_AB_putStringAt_18 rfl
noncomputable def P_AB_append_o (Θ : mW) (N : Nat) (h : mH) (a0 : Nat) (a1 : Nat) : Option (Nat × mH) :=
  (gS Θ h a1 (bc (P_ST_length Θ N h a1) (fun v2 h1 => (bo (rI Θ h1 8 a0 3) (fun v3 => (gO Θ h1 8 a0 (bc (P_AB_ensureCapacityInternal Θ N h1 a0 (v3 + v2)) (fun v5 h4 => (bo (rI Θ h4 8 a0 3) (fun v6 => (gO Θ h4 8 a0 (bc (P_AB_putStringAt Θ N h4 a0 v6 a1) (fun v8 h7 => (bo (rI Θ h7 8 a0 3) (fun v9 => (bo (wF Θ h7 8 a0 3 (.int (v9 + v2))) (fun h10 => (some (a0, h10)))))))))))))))))))
theorem S_AB_append_o (hfl : HF l Θ) (hD : 4 ≤ d) (h : mH) (a0 : Nat) (a1 : Nat) : mMs l Θ d M_AB_append_o [.ref a0, .ref a1] h (tR vA) (P_AB_append_o Θ N h a0 a1) := by
  refine mMs.of hfl (by decide +kernel) rfl (Nat.le_of_ble_eq_true rfl) (loc := [some (.ref a0), some (.ref a1), none]) rfl ?_
  unfold P_AB_append_o
  refine y_aload_n d_AB_append_o_0 rfl ?_
  refine y_ifnonnull (tgt := 9) d_AB_append_o_1 (by decide) ?_
  refine y_aload_n d_AB_append_o_9 rfl ?_
  refine y_gS' mTXT_ok ⟨_, rfl, rfl⟩ (fun g1 => y_cI (c_vi (rest := []) d_AB_append_o_10 k_ST_length s_AB_32 g1 rfl rfl (Nat.le_of_ble_eq_true rfl) (Nat.le_trans (Nat.le_of_ble_eq_true rfl : 2 + 1 ≤ 4) hD) (S_ST_length hfl (Nat.le_refl _) h a1)) (fun v2 h1 => ?_))
  refine y_istore_n (loc2 := [some (.ref a0), some (.ref a1), some (.int v2)]) d_AB_append_o_13 (Nat.le_of_ble_eq_true rfl) rfl rfl ?_
  refine y_aload_n d_AB_append_o_14 rfl ?_
  refine y_aload_n d_AB_append_o_15 rfl ?_
  refine y_getI d_AB_append_o_16 f_AB_79 (fun v3 => ?_)
  refine y_iload_n d_AB_append_o_19 rfl ?_
  refine y_iadd (v := (v3 + v2)) d_AB_append_o_20 rfl ?_
  refine y_gO (fun fs1 g1 => y_cU (c_un (rest := []) d_AB_append_o_21 k_AB_ensureCapacityInternal s_AB_100 (Or.inl ⟨_, _, _, g1, rfl, rfl⟩) rfl rfl (Nat.le_of_ble_eq_true rfl) (Nat.le_trans (Nat.le_of_ble_eq_true rfl : 3 + 1 ≤ 4) hD) (S_AB_ensureCapacityInternal hfl (Nat.le_refl _) h1 a0 (v3 + v2))) (fun v5 h4 => ?_))
  refine y_aload_n d_AB_append_o_24 rfl ?_
  refine y_aload_n d_AB_append_o_25 rfl ?_
  refine y_getI d_AB_append_o_26 f_AB_79 (fun v6 => ?_)
  refine y_aload_n d_AB_append_o_29 rfl ?_
  refine y_gO (fun fs1 g1 => y_cU (c_un (rest := []) d_AB_append_o_30 k_AB_putStringAt s_AB_208 (Or.inl ⟨_, _, _, g1, rfl, rfl⟩) rfl rfl (Nat.le_of_ble_eq_true rfl) (Nat.le_trans (Nat.le_of_ble_eq_true rfl : 3 + 1 ≤ 4) hD) (S_AB_putStringAt hfl (Nat.le_refl _) h4 a0 v6 a1)) (fun v8 h7 => ?_))
  refine y_aload_n d_AB_append_o_33 rfl ?_
  refine y_dup d_AB_append_o_34 rfl ?_
  refine y_getI d_AB_append_o_35 f_AB_79 (fun v9 => ?_)
  refine y_iload_n d_AB_append_o_38 rfl ?_
  refine y_iadd (v := (v9 + v2)) d_AB_append_o_39 rfl ?_
  refine y_put d_AB_append_o_40 p_AB_79 rfl rfl (fun h10 => ?_)
  refine y_aload_n d_AB_append_o_43 rfl ?_
  exact y_retA d_AB_append_o_44 rfl (Or.inl ⟨_, rfl⟩)
noncomputable def P_SB_append_o (Θ : mW) (N : Nat) (h : mH) (a0 : Nat) (a1 : Nat) : Option (Nat × mH) :=
  (gO Θ h 8 a0 (bc (P_AB_append_o Θ N h a0 a1) (fun v2 h1 => (some (a0, h1)))))
theorem S_SB_append_o (hfl : HF l Θ) (hD : 5 ≤ d) (h : mH) (a0 : Nat) (a1 : Nat) : mMs l Θ d M_SB_append_o [.ref a0, .ref a1] h (tR vA) (P_SB_append_o Θ N h a0 a1) := by
  refine mMs.of hfl (by decide +kernel) rfl (Nat.le_of_ble_eq_true rfl) (loc := [some (.ref a0), some (.ref a1)]) rfl ?_
  unfold P_SB_append_o
  refine y_aload_n d_SB_append_o_0 rfl ?_
  refine y_aload_n d_SB_append_o_1 rfl ?_
  refine y_gO (fun fs1 g1 => y_cA (c_su (rest := []) d_SB_append_o_2 k_AB_append_o s_SB_29 g1 rfl rfl (Nat.le_of_ble_eq_true rfl) (Nat.le_trans (Nat.le_of_ble_eq_true rfl : 4 + 1 ≤ 5) hD) (S_AB_append_o hfl (Nat.le_refl _) h a0 a1)) (fun v2 h1 => ?_))
  refine y_pop d_SB_append_o_5 rfl ?_
  refine y_aload_n d_SB_append_o_6 rfl ?_
  exact y_retA d_SB_append_o_7 rfl (Or.inl ⟨_, rfl⟩)
noncomputable def P_AB_getValue (Θ : mW) (N : Nat) (h : mH) (a0 : Nat) : Option (Nat × mH) :=
  (bo (rA Θ h 8 a0 0) (fun v1 => (some (v1, h))))
theorem S_AB_getValue (hfl : HF l Θ) (hD : 1 ≤ d) (h : mH) (a0 : Nat) : mMs l Θ d M_AB_getValue [.ref a0] h (tR vA) (P_AB_getValue Θ N h a0) := by
  refine mMs.of hfl (by decide +kernel) rfl (Nat.le_of_ble_eq_true rfl) (loc := [some (.ref a0)]) rfl ?_
  unfold P_AB_getValue
  refine y_aload_n d_AB_getValue_0 rfl ?_
  refine y_getA d_AB_getValue_1 f_AB_15 (fun v1 => ?_)
  exact y_retA d_AB_getValue_4 rfl (Or.inr ⟨_, rfl⟩)
noncomputable def P_AR_checkLength (Θ : mW) (N : Nat) (h : mH) (a0 : Int32) (a1 : Int32) : Option (Unit × mH) :=
  (if a0 ≤ a1 then (some ((), h)) else none)
theorem S_AR_checkLength (hfl : HF l Θ) (hD : 6 ≤ d) (h : mH) (a0 : Int32) (a1 : Int32) : mMs l Θ d M_AR_checkLength [.int a0, .int a1] h (tR vU) (P_AR_checkLength Θ N h a0 a1) := by
  refine mMs.of hfl (by decide +kernel) rfl (Nat.le_of_ble_eq_true rfl) (loc := [some (.int a0), some (.int a1)]) rfl ?_
  unfold P_AR_checkLength
  refine y_iload_n d_AR_checkLength_0 rfl ?_
  refine y_iload_n d_AR_checkLength_1 rfl ?_
  refine y_icmp_ge (tgt := 37) d_AR_checkLength_2 (by decide) ?_ ?_
  · exact y_retU d_AR_checkLength_37 rfl
  · exact y_none
noncomputable def P_AR_copyOfRangeByte (Θ : mW) (N : Nat) (h : mH) (a0 : Nat) (a1 : Int32) (a2 : Int32) : Option (Nat × mH) :=
  (bc (P_AR_checkLength Θ N h a1 a2) (fun v2 h1 => (ala Θ h1 1 (a2 - a1) (fun n => .inl (4, n, .inl (fun _ => 0))) (fun q3 h4 => (bo (aN Θ h4 a0) (fun v5 => (bo (cpB Θ h4 a0 a1 q3 (J 0) (mnI (v5 - a1) (a2 - a1))) (fun h6 => (some (q3, h6))))))))))
theorem S_AR_copyOfRangeByte (hfl : HF l Θ) (hD : 7 ≤ d) (h : mH) (a0 : Nat) (a1 : Int32) (a2 : Int32) : mMs l Θ d M_AR_copyOfRangeByte [.ref a0, .int a1, .int a2] h (tR vA) (P_AR_copyOfRangeByte Θ N h a0 a1 a2) := by
  refine mMs.of hfl (by decide +kernel) rfl (Nat.le_of_ble_eq_true rfl) (loc := [some (.ref a0), some (.int a1), some (.int a2), none, none]) rfl ?_
  unfold P_AR_copyOfRangeByte
  refine y_iload_n d_AR_copyOfRangeByte_0 rfl ?_
  refine y_iload_n d_AR_copyOfRangeByte_1 rfl ?_
  refine y_cU (c_st (rest := []) d_AR_copyOfRangeByte_2 k_AR_checkLength s_AR_343 rfl rfl (Nat.le_of_ble_eq_true rfl) (Nat.le_trans (Nat.le_of_ble_eq_true rfl : 6 + 1 ≤ 7) hD) (S_AR_checkLength hfl (Nat.le_refl _) h a1 a2)) (fun v2 h1 => ?_)
  refine y_iload_n d_AR_copyOfRangeByte_5 rfl ?_
  refine y_iload_n d_AR_copyOfRangeByte_6 rfl ?_
  refine y_isub (v := (a2 - a1)) d_AR_copyOfRangeByte_7 rfl ?_
  refine y_istore_n (loc2 := [some (.ref a0), some (.int a1), some (.int a2), some (.int (a2 - a1)), none]) d_AR_copyOfRangeByte_8 (Nat.le_of_ble_eq_true rfl) rfl rfl ?_
  refine y_iload_n d_AR_copyOfRangeByte_9 rfl ?_
  refine y_newarr (ty := .byte) (a0 := fun n => (n, .inl (fun _ => 0))) d_AR_copyOfRangeByte_10 rfl (fun _ => rfl) (mG (2, 20) (by decide +kernel)) (fun _ _ => rfl) (fun _ => rfl) rfl (fun q3 h4 => ?_)
  refine y_astore (loc2 := [some (.ref a0), some (.int a1), some (.int a2), some (.int (a2 - a1)), some (.ref q3)]) d_AR_copyOfRangeByte_12 (Nat.le_of_ble_eq_true rfl) rfl rfl ?_
  refine y_aload_n d_AR_copyOfRangeByte_14 rfl ?_
  refine y_iload_n d_AR_copyOfRangeByte_15 rfl ?_
  refine y_aload d_AR_copyOfRangeByte_16 rfl ?_
  refine y_iconst (v := (J 0)) d_AR_copyOfRangeByte_18 rfl ?_
  refine y_aload_n d_AR_copyOfRangeByte_19 rfl ?_
  refine y_alen d_AR_copyOfRangeByte_20 (fun v5 => ?_)
  refine y_iload_n d_AR_copyOfRangeByte_21 rfl ?_
  refine y_isub (v := (v5 - a1)) d_AR_copyOfRangeByte_22 rfl ?_
  refine y_iload_n d_AR_copyOfRangeByte_23 rfl ?_
  refine y_mmin d_AR_copyOfRangeByte_24 s_AR_304.1 s_AR_304.2 k_MA_min.2.2.2.2.2 (mG (2, 239) (by decide +kernel)) (Nat.le_of_ble_eq_true rfl) (Nat.le_trans (Nat.le_of_ble_eq_true rfl) hD) ?_
  refine y_acopyB d_AR_copyOfRangeByte_27 s_AR_150 (mG (2, 135) (by decide +kernel)) (mG (2, 134) (by decide +kernel)) (mG (1, 15) (by decide +kernel)) (Nat.le_of_ble_eq_true rfl) (Nat.le_trans (Nat.le_of_ble_eq_true rfl) hD) (fun h6 => ?_)
  refine y_aload d_AR_copyOfRangeByte_30 rfl ?_
  exact y_retA d_AR_copyOfRangeByte_32 rfl (Or.inr ⟨_, rfl⟩)
noncomputable def P_AR_copyOfRange (Θ : mW) (N : Nat) (h : mH) (a0 : Nat) (a1 : Int32) (a2 : Int32) : Option (Nat × mH) :=
  (jn (fun (h2 : mH) => (bc (P_AR_copyOfRangeByte Θ N h2 a0 a1 a2) (fun v4 h3 => (some (v4, h3))))) (fun j1 => (if a1 = 0 then (bo (aN Θ h a0) (fun v5 => (if a2 = v5 then (aCl Θ h 4 a0 (fun q6 h7 => (some (q6, h7)))) else (j1 h)))) else (j1 h))))
theorem S_AR_copyOfRange (hfl : HF l Θ) (hD : 8 ≤ d) (h : mH) (a0 : Nat) (a1 : Int32) (a2 : Int32) : mMs l Θ d M_AR_copyOfRange [.ref a0, .int a1, .int a2] h (tR vA) (P_AR_copyOfRange Θ N h a0 a1 a2) := by
  refine mMs.of hfl (by decide +kernel) rfl (Nat.le_of_ble_eq_true rfl) (loc := [some (.ref a0), some (.int a1), some (.int a2)]) rfl ?_
  unfold P_AR_copyOfRange
  refine y_iload_n d_AR_copyOfRange_0 rfl ?_
  refine y_jn (C := fun (j9 : mH → Option (Nat × mH)) => ∀ (h2 : mH), mY l Θ d M_AR_copyOfRange 10 [some (.ref a0), some (.int a1), some (.int a2)] [] h2 (tR vA) (j9 h2)) (fun h2 => ?_) (fun j1 Hj1 => ?_)
  · refine y_aload_n d_AR_copyOfRange_10 rfl ?_
    refine y_iload_n d_AR_copyOfRange_11 rfl ?_
    refine y_iload_n d_AR_copyOfRange_12 rfl ?_
    refine y_cA (c_st (rest := []) d_AR_copyOfRange_13 k_AR_copyOfRangeByte s_AR_339 rfl rfl (Nat.le_of_ble_eq_true rfl) (Nat.le_trans (Nat.le_of_ble_eq_true rfl : 7 + 1 ≤ 8) hD) (S_AR_copyOfRangeByte hfl (Nat.le_refl _) h2 a0 a1 a2)) (fun v4 h3 => ?_)
    exact y_retA d_AR_copyOfRange_16 rfl (Or.inr ⟨_, rfl⟩)
  · refine y_if_ne (tgt := 10) d_AR_copyOfRange_1 (by decide) ?_ ?_
    · exact Hj1 h
    · refine y_iload_n d_AR_copyOfRange_4 rfl ?_
      refine y_aload_n d_AR_copyOfRange_5 rfl ?_
      refine y_alen d_AR_copyOfRange_6 (fun v5 => ?_)
      refine y_icmp_eq (tgt := 17) d_AR_copyOfRange_7 (by decide) ?_ ?_
      · refine y_aload_n d_AR_copyOfRange_17 rfl ?_
        refine y_clone d_AR_copyOfRange_18 ⟨mG (4, 182) (by decide +kernel), mG (4, 183) (by decide +kernel), mG (4, 184) (by decide +kernel), mG (4, 185) (by decide +kernel), mG (4, 186) (by decide +kernel), mN (4, 187) (by decide +kernel)⟩ (Nat.le_of_ble_eq_true rfl) (Nat.le_trans (Nat.le_of_ble_eq_true rfl) hD) (fun q6 h7 gcl => ?_)
        refine y_castB d_AR_copyOfRange_21 (mG (4, 188) (by decide +kernel)) gcl ?_
        exact y_retA d_AR_copyOfRange_24 rfl (Or.inr ⟨_, rfl⟩)
      · exact Hj1 h
noncomputable def P_ST_init_oo (Θ : mW) (N : Nat) (h : mH) (a0 : Nat) (a1 : Nat) : Option (Unit × mH) :=
  (gO Θ h 8 a1 (bc (P_AB_getValue Θ N h a1) (fun v2 h1 => (gO Θ h1 8 a1 (bc (P_SB_length Θ N h1 a1) (fun v4 h3 => (gO Θ h3 8 a1 (bc (P_AB_isLatin1 Θ N h3 a1) (fun v6 h5 => (if v6 = 0 then (jn (fun (h8 : mH) => (if ((J 1)).toInt8.toInt32 = (J 1) ∧ fits .byte (.int (J 1)) = true then (bo (wF Θ h8 9 a0 1 (.int (J 1))) (fun h9 => (bc (P_AR_copyOfRange Θ N h9 v2 (J 0) (v4 <<< ((J 1) &&& 31))) (fun v11 h10 => (bo (wF Θ h10 9 a0 0 (.ref v11)) (fun h12 => (some ((), h12)))))))) else none)) (fun j7 => (if (1 : Int32) = 0 then (j7 h5) else (bo (rI Θ h5 8 a1 2) (fun v13 => (if v13 = 0 then (j7 h5) else none)))))) else (if ((J 0)).toInt8.toInt32 = (J 0) ∧ fits .byte (.int (J 0)) = true then (bo (wF Θ h5 9 a0 1 (.int (J 0))) (fun h14 => (bc (P_AR_copyOfRange Θ N h14 v2 (J 0) v4) (fun v16 h15 => (bo (wF Θ h15 9 a0 0 (.ref v16)) (fun h17 => (some ((), h17)))))))) else none)))))))))))
theorem S_ST_init_oo (hfl : HF l Θ) (hD : 9 ≤ d) (h : mH) (a0 : Nat) (a1 : Nat) : mMs l Θ d M_ST_init_oo [.ref a0, .ref a1, .null] h (tR vU) (P_ST_init_oo Θ N h a0 a1) := by
  refine mMs.of hfl (by decide +kernel) rfl (Nat.le_of_ble_eq_true rfl) (loc := [some (.ref a0), some (.ref a1), some (.null), none, none]) rfl ?_
  unfold P_ST_init_oo
  refine y_aload_n d_ST_init_oo_0 rfl ?_
  refine y_objInit d_ST_init_oo_1 s_ST_1 (mG (1, 42) (by decide +kernel)) (mG (1, 43) (by decide +kernel)) (Nat.le_of_ble_eq_true rfl) (Nat.le_trans (Nat.le_of_ble_eq_true rfl) hD) ?_
  refine y_aload_n d_ST_init_oo_4 rfl ?_
  refine y_gO (fun fs1 g1 => y_cA (c_un (rest := []) d_ST_init_oo_5 k_AB_getValue s_ST_552 (Or.inl ⟨_, _, _, g1, rfl, rfl⟩) rfl rfl (Nat.le_of_ble_eq_true rfl) (Nat.le_trans (Nat.le_of_ble_eq_true rfl : 1 + 1 ≤ 9) hD) (S_AB_getValue hfl (Nat.le_refl _) h a1)) (fun v2 h1 => ?_))
  refine y_astore_n (loc2 := [some (.ref a0), some (.ref a1), some (.null), some (.ref v2), none]) d_ST_init_oo_8 (Nat.le_of_ble_eq_true rfl) rfl rfl ?_
  refine y_aload_n d_ST_init_oo_9 rfl ?_
  refine y_gO (fun fs1 g1 => y_cI (c_ov (rest := []) d_ST_init_oo_10 k_SB_length k_AB_length s_ST_549 (Or.inl ⟨_, _, _, g1, rfl, rfl⟩) rfl rfl (Nat.le_of_ble_eq_true rfl) (Nat.le_trans (Nat.le_of_ble_eq_true rfl : 2 + 1 ≤ 9) hD) (S_SB_length hfl (Nat.le_refl _) h1 a1)) (fun v4 h3 => ?_))
  refine y_istore (loc2 := [some (.ref a0), some (.ref a1), some (.null), some (.ref v2), some (.int v4)]) d_ST_init_oo_13 (Nat.le_of_ble_eq_true rfl) rfl rfl ?_
  refine y_aload_n d_ST_init_oo_15 rfl ?_
  refine y_gO (fun fs1 g1 => y_cI (c_un (rest := []) d_ST_init_oo_16 k_AB_isLatin1 s_ST_1047 (Or.inl ⟨_, _, _, g1, rfl, rfl⟩) rfl rfl (Nat.le_of_ble_eq_true rfl) (Nat.le_trans (Nat.le_of_ble_eq_true rfl : 1 + 1 ≤ 9) hD) (S_AB_isLatin1 hfl (Nat.le_refl _) h3 a1)) (fun v6 h5 => ?_))
  refine y_if_eq (tgt := 41) d_ST_init_oo_19 (by decide) ?_ ?_
  · refine y_getstatic d_ST_init_oo_41 t_ST_38 (List.mem_of_getElem? (i := 0) rfl) ?_
    refine y_jn (C := fun (j9 : mH → Option (Unit × mH)) => ∀ (h8 : mH), mY l Θ d M_ST_init_oo 79 [some (.ref a0), none, none, some (.ref v2), some (.int v4)] [] h8 (tR vU) (j9 h8)) (fun h8 => ?_) (fun j7 Hj7 => ?_)
    · refine y_aload_n d_ST_init_oo_79 rfl ?_
      refine y_iconst (v := (J 1)) d_ST_init_oo_80 rfl ?_
      refine y_gB (fun hn hf => y_putF d_ST_init_oo_81 rfl pf_ST_15 hn hf (fun h9 => ?_))
      refine y_aload_n d_ST_init_oo_84 rfl ?_
      refine y_aload_n d_ST_init_oo_85 rfl ?_
      refine y_iconst (v := (J 0)) d_ST_init_oo_86 rfl ?_
      refine y_iload d_ST_init_oo_87 rfl ?_
      refine y_iconst (v := (J 1)) d_ST_init_oo_89 rfl ?_
      refine y_ishl (v := (v4 <<< ((J 1) &&& 31))) d_ST_init_oo_90 rfl ?_
      refine y_cA (c_st (rest := [.ref a0]) d_ST_init_oo_91 k_AR_copyOfRange s_ST_54 rfl rfl (Nat.le_of_ble_eq_true rfl) (Nat.le_trans (Nat.le_of_ble_eq_true rfl : 8 + 1 ≤ 9) hD) (S_AR_copyOfRange hfl (Nat.le_refl _) h9 v2 (J 0) (v4 <<< ((J 1) &&& 31)))) (fun v11 h10 => ?_)
      refine y_putF d_ST_init_oo_94 rfl pf_ST_9 rfl rfl (fun h12 => ?_)
      exact y_retU d_ST_init_oo_97 rfl
    · refine y_if_eq (tgt := 79) d_ST_init_oo_44 (by decide) ?_ ?_
      · exact y_wk (loc2 := [some (.ref a0), none, none, some (.ref v2), some (.int v4)]) ⟨rfl, ⟨rfl, ⟨rfl, trivial⟩⟩⟩ (Hj7 h5)
      · refine y_aload_n d_ST_init_oo_47 rfl ?_
        refine y_getI d_ST_init_oo_48 f_ST_1048 (fun v13 => ?_)
        refine y_if_eq (tgt := 79) d_ST_init_oo_51 (by decide) ?_ ?_
        · exact y_wk (loc2 := [some (.ref a0), none, none, some (.ref v2), some (.int v4)]) ⟨rfl, ⟨rfl, ⟨rfl, trivial⟩⟩⟩ (Hj7 h5)
        · refine y_aload_n d_ST_init_oo_54 rfl ?_
          refine y_aload_n d_ST_init_oo_55 rfl ?_
          refine y_iconst (v := (J 0)) d_ST_init_oo_56 rfl ?_
          refine y_iload d_ST_init_oo_57 rfl ?_
          exact y_none
  · refine y_aload_n d_ST_init_oo_22 rfl ?_
    refine y_iconst (v := (J 0)) d_ST_init_oo_23 rfl ?_
    refine y_gB (fun hn hf => y_putF d_ST_init_oo_24 rfl pf_ST_15 hn hf (fun h14 => ?_))
    refine y_aload_n d_ST_init_oo_27 rfl ?_
    refine y_aload_n d_ST_init_oo_28 rfl ?_
    refine y_iconst (v := (J 0)) d_ST_init_oo_29 rfl ?_
    refine y_iload d_ST_init_oo_30 rfl ?_
    refine y_cA (c_st (rest := [.ref a0]) d_ST_init_oo_32 k_AR_copyOfRange s_ST_54 rfl rfl (Nat.le_of_ble_eq_true rfl) (Nat.le_trans (Nat.le_of_ble_eq_true rfl : 8 + 1 ≤ 9) hD) (S_AR_copyOfRange hfl (Nat.le_refl _) h14 v2 (J 0) v4)) (fun v16 h15 => ?_)
    refine y_putF d_ST_init_oo_35 rfl pf_ST_9 rfl rfl (fun h17 => ?_)
    refine y_goto (tgt := 97) d_ST_init_oo_38 (by decide) ?_
    exact y_retU d_ST_init_oo_97 rfl
noncomputable def P_ST_init_o (Θ : mW) (N : Nat) (h : mH) (a0 : Nat) (a1 : Nat) : Option (Unit × mH) :=
  (bc (P_ST_init_oo Θ N h a0 a1) (fun v2 h1 => (some ((), h1))))
theorem S_ST_init_o (hfl : HF l Θ) (hD : 10 ≤ d) (h : mH) (a0 : Nat) (a1 : Nat) : mMs l Θ d M_ST_init_o [.ref a0, .ref a1] h (tR vU) (P_ST_init_o Θ N h a0 a1) := by
  refine mMs.of hfl (by decide +kernel) rfl (Nat.le_of_ble_eq_true rfl) (loc := [some (.ref a0), some (.ref a1)]) rfl ?_
  unfold P_ST_init_o
  refine y_aload_n d_ST_init_o_0 rfl ?_
  refine y_aload_n d_ST_init_o_1 rfl ?_
  refine y_null d_ST_init_o_2 ?_
  refine y_cU (c_in (rest := []) d_ST_init_o_3 k_ST_init_oo s_ST_489 rfl rfl (Nat.le_of_ble_eq_true rfl) (Nat.le_trans (Nat.le_of_ble_eq_true rfl : 9 + 1 ≤ 10) hD) (S_ST_init_oo hfl (Nat.le_refl _) h a0 a1)) (fun v2 h1 => ?_)
  exact y_retU d_ST_init_o_6 rfl
noncomputable def P_SB_toString (Θ : mW) (N : Nat) (h : mH) (a0 : Nat) : Option (Nat × mH) :=
  (al Θ h (oB 9 [.null, .int 0, .int 0, .int 0]) (fun q1 h2 => (bc (P_ST_init_o Θ N h2 q1 a0) (fun v4 h3 => (some (q1, h3))))))
theorem S_SB_toString (hfl : HF l Θ) (hD : 11 ≤ d) (h : mH) (a0 : Nat) : mMs l Θ d M_SB_toString [.ref a0] h (tR vA) (P_SB_toString Θ N h a0) := by
  refine mMs.of hfl (by decide +kernel) rfl (Nat.le_of_ble_eq_true rfl) (loc := [some (.ref a0)]) rfl ?_
  unfold P_SB_toString
  refine y_new d_SB_toString_0 n_SB_18 (fun q1 h2 _ _ => ?_)
  refine y_dup d_SB_toString_3 rfl ?_
  refine y_aload_n d_SB_toString_4 rfl ?_
  refine y_cU (c_in (rest := [.ref q1]) d_SB_toString_5 k_ST_init_o s_SB_137 rfl rfl (Nat.le_of_ble_eq_true rfl) (Nat.le_trans (Nat.le_of_ble_eq_true rfl : 10 + 1 ≤ 11) hD) (S_ST_init_o hfl (Nat.le_refl _) h2 q1 a0)) (fun v4 h3 => ?_)
  exact y_retA d_SB_toString_8 rfl (Or.inl ⟨_, rfl⟩)
end GP
