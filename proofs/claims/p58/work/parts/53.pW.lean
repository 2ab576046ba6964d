/-! programs of methods -/
section GP
variable {l : Launch} {Θ : mW} {d N : Nat}
noncomputable def P_W_cell (Θ : mW) (N : Nat) (h : mH) (a1 : Int32) : Option (Int32 × mH) :=
  (bo (oXl Θ) (fun v1 => (jn (fun (h3 : mH) (s4 : Int32) => (some (((((((69069 : Int32) * (s4 + ((J 1009) * a1))) + (J 12345)) ^^^ (ush (((69069 : Int32) * (s4 + ((J 1009) * a1))) + (J 12345)) (J 13))) * (1103515245 : Int32)) ^^^ (ush (((((69069 : Int32) * (s4 + ((J 1009) * a1))) + (J 12345)) ^^^ (ush (((69069 : Int32) * (s4 + ((J 1009) * a1))) + (J 12345)) (J 13))) * (1103515245 : Int32)) (J 16))), h3))) (fun j2 => (if v1 ≤ a1 then (j2 h (J 0)) else (bo (oX Θ a1) (fun v5 => (j2 h v5))))))))
theorem S_W_cell (hfl : HF l Θ) (hD : 1 ≤ d) (h : mH) (a1 : Int32) : mMs l Θ d M_W_cell [.ref (mwad Θ 40), .int a1] h (tR vI) (P_W_cell Θ N h a1) := by
  refine mMs.of hfl (by decide +kernel) rfl (Nat.le_of_ble_eq_true rfl) (loc := [some (.ref (mwad Θ 40)), some (.int a1), none]) rfl ?_
  unfold P_W_cell
  refine y_ldc d_W_cell_0 l_W_7 ?_
  refine y_iload_n d_W_cell_2 rfl ?_
  refine y_aload_n d_W_cell_3 rfl ?_
  refine y_oldXl d_W_cell_4 (fun v1 => ?_)
  refine y_jn (C := fun (j9 : mH → Int32 → Option (Int32 × mH)) => ∀ (h3 : mH) (s4 : Int32), mY l Θ d M_W_cell 15 [none, some (.int a1), none] [.int s4, .int (69069 : Int32)] h3 (tR vI) (j9 h3 s4)) (fun h3 s4 => ?_) (fun j2 Hj2 => ?_)
  · refine y_sipush (v := (J 1009)) d_W_cell_15 (by decide +kernel) ?_
    refine y_iload_n d_W_cell_18 rfl ?_
    refine y_imul (v := ((J 1009) * a1)) d_W_cell_19 rfl ?_
    refine y_iadd (v := (s4 + ((J 1009) * a1))) d_W_cell_20 rfl ?_
    refine y_imul (v := ((69069 : Int32) * (s4 + ((J 1009) * a1)))) d_W_cell_21 rfl ?_
    refine y_sipush (v := (J 12345)) d_W_cell_22 (by decide +kernel) ?_
    refine y_iadd (v := (((69069 : Int32) * (s4 + ((J 1009) * a1))) + (J 12345))) d_W_cell_25 rfl ?_
    refine y_istore_n (loc2 := [none, some (.int a1), some (.int (((69069 : Int32) * (s4 + ((J 1009) * a1))) + (J 12345)))]) d_W_cell_26 (Nat.le_of_ble_eq_true rfl) rfl rfl ?_
    refine y_iload_n d_W_cell_27 rfl ?_
    refine y_iload_n d_W_cell_28 rfl ?_
    refine y_bipush (v := (J 13)) d_W_cell_29 (by decide +kernel) ?_
    refine y_iushr (v := ush (((69069 : Int32) * (s4 + ((J 1009) * a1))) + (J 12345)) (J 13)) d_W_cell_31 rfl ?_
    refine y_ixor (v := ((((69069 : Int32) * (s4 + ((J 1009) * a1))) + (J 12345)) ^^^ (ush (((69069 : Int32) * (s4 + ((J 1009) * a1))) + (J 12345)) (J 13)))) d_W_cell_32 rfl ?_
    refine y_ldc d_W_cell_33 l_W_8 ?_
    refine y_imul (v := (((((69069 : Int32) * (s4 + ((J 1009) * a1))) + (J 12345)) ^^^ (ush (((69069 : Int32) * (s4 + ((J 1009) * a1))) + (J 12345)) (J 13))) * (1103515245 : Int32))) d_W_cell_35 rfl ?_
    refine y_istore_n (loc2 := [none, some (.int a1), some (.int (((((69069 : Int32) * (s4 + ((J 1009) * a1))) + (J 12345)) ^^^ (ush (((69069 : Int32) * (s4 + ((J 1009) * a1))) + (J 12345)) (J 13))) * (1103515245 : Int32)))]) d_W_cell_36 (Nat.le_of_ble_eq_true rfl) rfl rfl ?_
    refine y_iload_n d_W_cell_37 rfl ?_
    refine y_iload_n d_W_cell_38 rfl ?_
    refine y_bipush (v := (J 16)) d_W_cell_39 (by decide +kernel) ?_
    refine y_iushr (v := ush (((((69069 : Int32) * (s4 + ((J 1009) * a1))) + (J 12345)) ^^^ (ush (((69069 : Int32) * (s4 + ((J 1009) * a1))) + (J 12345)) (J 13))) * (1103515245 : Int32)) (J 16)) d_W_cell_41 rfl ?_
    refine y_ixor (v := ((((((69069 : Int32) * (s4 + ((J 1009) * a1))) + (J 12345)) ^^^ (ush (((69069 : Int32) * (s4 + ((J 1009) * a1))) + (J 12345)) (J 13))) * (1103515245 : Int32)) ^^^ (ush (((((69069 : Int32) * (s4 + ((J 1009) * a1))) + (J 12345)) ^^^ (ush (((69069 : Int32) * (s4 + ((J 1009) * a1))) + (J 12345)) (J 13))) * (1103515245 : Int32)) (J 16)))) d_W_cell_42 rfl ?_
    exact y_retI d_W_cell_43 rfl rfl
  · refine y_icmp_ge (tgt := 14) d_W_cell_5 (by decide) ?_ ?_
    · refine y_iconst (v := (J 0)) d_W_cell_14 rfl ?_
      exact y_wk (loc2 := [none, some (.int a1), none]) ⟨rfl, trivial⟩ (Hj2 h (J 0))
    · refine y_aload_n d_W_cell_8 rfl ?_
      refine y_iload_n d_W_cell_9 rfl ?_
      refine y_oldX d_W_cell_10 (fun v5 => ?_)
      refine y_goto (tgt := 15) d_W_cell_11 (by decide) ?_
      exact y_wk (loc2 := [none, some (.int a1), none]) ⟨rfl, trivial⟩ (Hj2 h v5)
noncomputable def P_W_pick (Θ : mW) (N : Nat) (h : mH) (a1 : Int32) (a2 : Int32) : Option (Int32 × mH) :=
  (bc (P_W_cell Θ N h a1) (fun v2 h1 => (if a2 = 0 then none else (some (((ush v2 (J 8)) - (ush v2 (J 8)) / a2 * a2), h1)))))
theorem S_W_pick (hfl : HF l Θ) (hD : 2 ≤ d) (h : mH) (a1 : Int32) (a2 : Int32) : mMs l Θ d M_W_pick [.ref (mwad Θ 40), .int a1, .int a2] h (tR vI) (P_W_pick Θ N h a1 a2) := by
  refine mMs.of hfl (by decide +kernel) rfl (Nat.le_of_ble_eq_true rfl) (loc := [some (.ref (mwad Θ 40)), some (.int a1), some (.int a2)]) rfl ?_
  unfold P_W_pick
  refine y_aload_n d_W_pick_0 rfl ?_
  refine y_iload_n d_W_pick_1 rfl ?_
  refine y_cI (c_st (rest := []) d_W_pick_2 k_W_cell s_W_9 rfl rfl (Nat.le_of_ble_eq_true rfl) (Nat.le_trans (Nat.le_of_ble_eq_true rfl : 1 + 1 ≤ 2) hD) (S_W_cell hfl (Nat.le_refl _) h a1)) (fun v2 h1 => ?_)
  refine y_bipush (v := (J 8)) d_W_pick_5 (by decide +kernel) ?_
  refine y_iushr (v := ush v2 (J 8)) d_W_pick_7 rfl ?_
  refine y_iload_n d_W_pick_8 rfl ?_
  refine y_gn (fun hn => y_irem (v := ((ush v2 (J 8)) - (ush v2 (J 8)) / a2 * a2)) d_W_pick_9 hn rfl ?_)
  exact y_retI d_W_pick_10 rfl rfl
noncomputable def P_W_told (Θ : mW) (N : Nat) (h : mH) (a0 : Int32) : Option (Int32 × mH) :=
  (if a0 = 0 then (some ((J 0), h)) else (some ((J 1), h)))
theorem S_W_told (hfl : HF l Θ) (hD : 1 ≤ d) (h : mH) (a0 : Int32) : mMs l Θ d M_W_told [.int a0] h (tR vI) (P_W_told Θ N h a0) := by
  refine mMs.of hfl (by decide +kernel) rfl (Nat.le_of_ble_eq_true rfl) (loc := [some (.int a0)]) rfl ?_
  unfold P_W_told
  refine y_iload_n d_W_told_0 rfl ?_
  refine y_if_eq (tgt := 8) d_W_told_1 (by decide) ?_ ?_
  · refine y_iconst (v := (J 0)) d_W_told_8 rfl ?_
    exact y_retI d_W_told_9 rfl rfl
  · refine y_iconst (v := (J 1)) d_W_told_4 rfl ?_
    refine y_goto (tgt := 9) d_W_told_5 (by decide) ?_
    exact y_retI d_W_told_9 rfl rfl
noncomputable def P_W_plain (Θ : mW) (N : Nat) (h : mH) (a0 : Nat) (a1 : Int32) (a2 : Int32) (a3 : Int32) (a4 : Int32) : Option ((Int32 ⊕ Nat) × mH) :=
  (if (a1).toInt < 0 ∨ 10 < (a1).toInt then none else if a1 = J 0 then (gO Θ h 0 a0 (bx (P_F_addShip Θ N h a0 a2 a3 a4) (fun v2 h1 => (some (.inl v2, h1))) (fun n9 h9 => xp n9 h9))) else if a1 = J 1 then (gO Θ h 0 a0 (bx (P_F_removeShip Θ N h a0 a2) (fun v4 h3 => (some (.inl v4, h3))) (fun n9 h9 => xp n9 h9))) else if a1 = J 2 then (gO Θ h 0 a0 (bx (P_F_enter Θ N h a0 a2 a3) (fun v6 h5 => (some (.inl v6, h5))) (fun n9 h9 => xp n9 h9))) else if a1 = J 3 then (gO Θ h 0 a0 (bx (P_F_leave Θ N h a0 a2) (fun v8 h7 => (some (.inl v8, h7))) (fun n9 h9 => xp n9 h9))) else if a1 = J 4 then (jn (fun (h10 : mH) (s11 : Int32) => (gO Θ h10 0 a0 (bx (P_F_setCleaning Θ N h10 a0 a2 s11) (fun v13 h12 => (bc (P_W_told Θ N h12 v13) (fun v15 h14 => (some (.inl v15, h14))))) (fun n9 h9 => xp n9 h9)))) (fun j9 => (if a3 = (J 1) then (j9 h (J 1)) else (j9 h (J 0))))) else if a1 = J 5 then (jn (fun (h17 : mH) (s18 : Int32) => (gO Θ h17 0 a0 (bx (P_F_setGate Θ N h17 a0 s18) (fun v20 h19 => (bc (P_W_told Θ N h19 v20) (fun v22 h21 => (some (.inl v22, h21))))) (fun n9 h9 => xp n9 h9)))) (fun j16 => (if a2 = (J 1) then (j16 h (J 1)) else (j16 h (J 0))))) else if a1 = J 6 then (gO Θ h 0 a0 (bx (P_F_setPump Θ N h a0 a2) (fun v24 h23 => (some (.inl (v24 + (J 100)), h23))) (fun n9 h9 => xp n9 h9))) else if a1 = J 7 then (gO Θ h 0 a0 (bx (P_F_pass Θ N h a0 a2) (fun v26 h25 => (some (.inl v26, h25))) (fun n9 h9 => xp n9 h9))) else if a1 = J 8 then (gO Θ h 0 a0 (bx (P_F_placeBlock Θ N h a0 a2) (fun v28 h27 => (some (.inl v28, h27))) (fun n9 h9 => xp n9 h9))) else if a1 = J 9 then (gO Θ h 0 a0 (bx (P_F_removeBlock Θ N h a0 a2) (fun v30 h29 => (some (.inl v30, h29))) (fun n9 h9 => xp n9 h9))) else if a1 = J 10 then (gO Θ h 0 a0 (bx (P_F_pay Θ N h a0 a2 a3) (fun v32 h31 => (some (.inl v32, h31))) (fun n9 h9 => xp n9 h9))) else none)
theorem S_W_plain (hfl : HF l Θ) (hD : 11 ≤ d) (h : mH) (a0 : Nat) (a1 : Int32) (a2 : Int32) (a3 : Int32) (a4 : Int32) : mMs l Θ d M_W_plain [.ref a0, .int a1, .int a2, .int a3, .int a4] h (tX vI) (P_W_plain Θ N h a0 a1 a2 a3 a4) := by
  refine mMs.of hfl (by decide +kernel) rfl (Nat.le_of_ble_eq_true rfl) (loc := [some (.ref a0), some (.int a1), some (.int a2), some (.int a3), some (.int a4)]) rfl ?_
  unfold P_W_plain
  refine y_iload_n d_W_plain_0 rfl ?_
  refine y_tabOut (tgt := 159) d_W_plain_1 (by decide) ?_ (fun hn => ?_)
  · refine y_aload_n d_W_plain_159 rfl ?_
    exact y_none
  refine y_tabIn (tgt := 60) d_W_plain_1 hn (by decide +kernel) rfl (by decide) ?_ ?_
  · refine y_aload_n d_W_plain_60 rfl ?_
    refine y_iload_n d_W_plain_61 rfl ?_
    refine y_iload_n d_W_plain_62 rfl ?_
    refine y_iload d_W_plain_63 rfl ?_
    refine y_gO (fun fs1 g1 => y_xI (c_vi (rest := []) d_W_plain_65 k_F_addShip s_W_15 (Or.inl ⟨_, _, _, g1, rfl, rfl⟩) rfl rfl (Nat.le_of_ble_eq_true rfl) (Nat.le_trans (Nat.le_of_ble_eq_true rfl : 7 + 1 ≤ 11) hD) (S_F_addShip hfl (Nat.le_refl _) h a0 a2 a3 a4)) (fun v2 h1 => ?_) (fun _ _ => y_hp rfl))
    exact y_retIX d_W_plain_68 rfl rfl
  refine y_tabIn (tgt := 69) d_W_plain_1 hn (by decide +kernel) rfl (by decide) ?_ ?_
  · refine y_aload_n d_W_plain_69 rfl ?_
    refine y_iload_n d_W_plain_70 rfl ?_
    refine y_gO (fun fs1 g1 => y_xI (c_vi (rest := []) d_W_plain_71 k_F_removeShip s_W_21 (Or.inl ⟨_, _, _, g1, rfl, rfl⟩) rfl rfl (Nat.le_of_ble_eq_true rfl) (Nat.le_trans (Nat.le_of_ble_eq_true rfl : 8 + 1 ≤ 11) hD) (S_F_removeShip hfl (Nat.le_refl _) h a0 a2)) (fun v4 h3 => ?_) (fun _ _ => y_hp rfl))
    exact y_retIX d_W_plain_74 rfl rfl
  refine y_tabIn (tgt := 75) d_W_plain_1 hn (by decide +kernel) rfl (by decide) ?_ ?_
  · refine y_aload_n d_W_plain_75 rfl ?_
    refine y_iload_n d_W_plain_76 rfl ?_
    refine y_iload_n d_W_plain_77 rfl ?_
    refine y_gO (fun fs1 g1 => y_xI (c_vi (rest := []) d_W_plain_78 k_F_enter s_W_25 (Or.inl ⟨_, _, _, g1, rfl, rfl⟩) rfl rfl (Nat.le_of_ble_eq_true rfl) (Nat.le_trans (Nat.le_of_ble_eq_true rfl : 9 + 1 ≤ 11) hD) (S_F_enter hfl (Nat.le_refl _) h a0 a2 a3)) (fun v6 h5 => ?_) (fun _ _ => y_hp rfl))
    exact y_retIX d_W_plain_81 rfl rfl
  refine y_tabIn (tgt := 82) d_W_plain_1 hn (by decide +kernel) rfl (by decide) ?_ ?_
  · refine y_aload_n d_W_plain_82 rfl ?_
    refine y_iload_n d_W_plain_83 rfl ?_
    refine y_gO (fun fs1 g1 => y_xI (c_vi (rest := []) d_W_plain_84 k_F_leave s_W_29 (Or.inl ⟨_, _, _, g1, rfl, rfl⟩) rfl rfl (Nat.le_of_ble_eq_true rfl) (Nat.le_trans (Nat.le_of_ble_eq_true rfl : 10 + 1 ≤ 11) hD) (S_F_leave hfl (Nat.le_refl _) h a0 a2)) (fun v8 h7 => ?_) (fun _ _ => y_hp rfl))
    exact y_retIX d_W_plain_87 rfl rfl
  refine y_tabIn (tgt := 88) d_W_plain_1 hn (by decide +kernel) rfl (by decide) ?_ ?_
  · refine y_aload_n d_W_plain_88 rfl ?_
    refine y_iload_n d_W_plain_89 rfl ?_
    refine y_iload_n d_W_plain_90 rfl ?_
    refine y_iconst (v := (J 1)) d_W_plain_91 rfl ?_
    refine y_jn (C := fun (j9 : mH → Int32 → Option ((Int32 ⊕ Nat) × mH)) => ∀ (h10 : mH) (s11 : Int32), mY l Θ d M_W_plain 100 [none, none, none, none, none] [.int s11, .int a2, .ref a0] h10 (tX vI) (j9 h10 s11)) (fun h10 s11 => ?_) (fun j9 Hj9 => ?_)
    · refine y_gO (fun fs1 g1 => y_xI (c_vi (rest := []) d_W_plain_100 k_F_setCleaning s_W_32 (Or.inl ⟨_, _, _, g1, rfl, rfl⟩) rfl rfl (Nat.le_of_ble_eq_true rfl) (Nat.le_trans (Nat.le_of_ble_eq_true rfl : 9 + 1 ≤ 11) hD) (S_F_setCleaning hfl (Nat.le_refl _) h10 a0 a2 s11)) (fun v13 h12 => ?_) (fun _ _ => y_hp rfl))
      refine y_cI (c_st (rest := []) d_W_plain_103 k_W_told s_W_36 rfl rfl (Nat.le_of_ble_eq_true rfl) (Nat.le_trans (Nat.le_of_ble_eq_true rfl : 1 + 1 ≤ 11) hD) (S_W_told hfl (Nat.le_refl _) h12 v13)) (fun v15 h14 => ?_)
      exact y_retIX d_W_plain_106 rfl rfl
    · refine y_icmp_ne (tgt := 99) d_W_plain_92 (by decide) ?_ ?_
      · refine y_iconst (v := (J 0)) d_W_plain_99 rfl ?_
        exact y_wk (loc2 := [none, none, none, none, none]) trivial (Hj9 h (J 0))
      · refine y_iconst (v := (J 1)) d_W_plain_95 rfl ?_
        refine y_goto (tgt := 100) d_W_plain_96 (by decide) ?_
        exact y_wk (loc2 := [none, none, none, none, none]) trivial (Hj9 h (J 1))
  refine y_tabIn (tgt := 107) d_W_plain_1 hn (by decide +kernel) rfl (by decide) ?_ ?_
  · refine y_aload_n d_W_plain_107 rfl ?_
    refine y_iload_n d_W_plain_108 rfl ?_
    refine y_iconst (v := (J 1)) d_W_plain_109 rfl ?_
    refine y_jn (C := fun (j9 : mH → Int32 → Option ((Int32 ⊕ Nat) × mH)) => ∀ (h17 : mH) (s18 : Int32), mY l Θ d M_W_plain 118 [none, none, none, none, none] [.int s18, .ref a0] h17 (tX vI) (j9 h17 s18)) (fun h17 s18 => ?_) (fun j16 Hj16 => ?_)
    · refine y_gO (fun fs1 g1 => y_xI (c_vi (rest := []) d_W_plain_118 k_F_setGate s_W_40 (Or.inl ⟨_, _, _, g1, rfl, rfl⟩) rfl rfl (Nat.le_of_ble_eq_true rfl) (Nat.le_trans (Nat.le_of_ble_eq_true rfl : 7 + 1 ≤ 11) hD) (S_F_setGate hfl (Nat.le_refl _) h17 a0 s18)) (fun v20 h19 => ?_) (fun _ _ => y_hp rfl))
      refine y_cI (c_st (rest := []) d_W_plain_121 k_W_told s_W_36 rfl rfl (Nat.le_of_ble_eq_true rfl) (Nat.le_trans (Nat.le_of_ble_eq_true rfl : 1 + 1 ≤ 11) hD) (S_W_told hfl (Nat.le_refl _) h19 v20)) (fun v22 h21 => ?_)
      exact y_retIX d_W_plain_124 rfl rfl
    · refine y_icmp_ne (tgt := 117) d_W_plain_110 (by decide) ?_ ?_
      · refine y_iconst (v := (J 0)) d_W_plain_117 rfl ?_
        exact y_wk (loc2 := [none, none, none, none, none]) trivial (Hj16 h (J 0))
      · refine y_iconst (v := (J 1)) d_W_plain_113 rfl ?_
        refine y_goto (tgt := 118) d_W_plain_114 (by decide) ?_
        exact y_wk (loc2 := [none, none, none, none, none]) trivial (Hj16 h (J 1))
  refine y_tabIn (tgt := 125) d_W_plain_1 hn (by decide +kernel) rfl (by decide) ?_ ?_
  · refine y_aload_n d_W_plain_125 rfl ?_
    refine y_iload_n d_W_plain_126 rfl ?_
    refine y_gO (fun fs1 g1 => y_xI (c_vi (rest := []) d_W_plain_127 k_F_setPump s_W_44 (Or.inl ⟨_, _, _, g1, rfl, rfl⟩) rfl rfl (Nat.le_of_ble_eq_true rfl) (Nat.le_trans (Nat.le_of_ble_eq_true rfl : 7 + 1 ≤ 11) hD) (S_F_setPump hfl (Nat.le_refl _) h a0 a2)) (fun v24 h23 => ?_) (fun _ _ => y_hp rfl))
    refine y_bipush (v := (J 100)) d_W_plain_130 (by decide +kernel) ?_
    refine y_iadd (v := (v24 + (J 100))) d_W_plain_132 rfl ?_
    exact y_retIX d_W_plain_133 rfl rfl
  refine y_tabIn (tgt := 134) d_W_plain_1 hn (by decide +kernel) rfl (by decide) ?_ ?_
  · refine y_aload_n d_W_plain_134 rfl ?_
    refine y_iload_n d_W_plain_135 rfl ?_
    refine y_gO (fun fs1 g1 => y_xI (c_vi (rest := []) d_W_plain_136 k_F_pass s_W_47 (Or.inl ⟨_, _, _, g1, rfl, rfl⟩) rfl rfl (Nat.le_of_ble_eq_true rfl) (Nat.le_trans (Nat.le_of_ble_eq_true rfl : 7 + 1 ≤ 11) hD) (S_F_pass hfl (Nat.le_refl _) h a0 a2)) (fun v26 h25 => ?_) (fun _ _ => y_hp rfl))
    exact y_retIX d_W_plain_139 rfl rfl
  refine y_tabIn (tgt := 140) d_W_plain_1 hn (by decide +kernel) rfl (by decide) ?_ ?_
  · refine y_aload_n d_W_plain_140 rfl ?_
    refine y_iload_n d_W_plain_141 rfl ?_
    refine y_gO (fun fs1 g1 => y_xI (c_vi (rest := []) d_W_plain_142 k_F_placeBlock s_W_50 (Or.inl ⟨_, _, _, g1, rfl, rfl⟩) rfl rfl (Nat.le_of_ble_eq_true rfl) (Nat.le_trans (Nat.le_of_ble_eq_true rfl : 8 + 1 ≤ 11) hD) (S_F_placeBlock hfl (Nat.le_refl _) h a0 a2)) (fun v28 h27 => ?_) (fun _ _ => y_hp rfl))
    exact y_retIX d_W_plain_145 rfl rfl
  refine y_tabIn (tgt := 146) d_W_plain_1 hn (by decide +kernel) rfl (by decide) ?_ ?_
  · refine y_aload_n d_W_plain_146 rfl ?_
    refine y_iload_n d_W_plain_147 rfl ?_
    refine y_gO (fun fs1 g1 => y_xI (c_vi (rest := []) d_W_plain_148 k_F_removeBlock s_W_53 (Or.inl ⟨_, _, _, g1, rfl, rfl⟩) rfl rfl (Nat.le_of_ble_eq_true rfl) (Nat.le_trans (Nat.le_of_ble_eq_true rfl : 8 + 1 ≤ 11) hD) (S_F_removeBlock hfl (Nat.le_refl _) h a0 a2)) (fun v30 h29 => ?_) (fun _ _ => y_hp rfl))
    exact y_retIX d_W_plain_151 rfl rfl
  refine y_tabIn (tgt := 152) d_W_plain_1 hn (by decide +kernel) rfl (by decide) ?_ ?_
  · refine y_aload_n d_W_plain_152 rfl ?_
    refine y_iload_n d_W_plain_153 rfl ?_
    refine y_iload_n d_W_plain_154 rfl ?_
    refine y_gO (fun fs1 g1 => y_xI (c_vi (rest := []) d_W_plain_155 k_F_pay s_W_56 (Or.inl ⟨_, _, _, g1, rfl, rfl⟩) rfl rfl (Nat.le_of_ble_eq_true rfl) (Nat.le_trans (Nat.le_of_ble_eq_true rfl : 8 + 1 ≤ 11) hD) (S_F_pay hfl (Nat.le_refl _) h a0 a2 a3)) (fun v32 h31 => ?_) (fun _ _ => y_hp rfl))
    exact y_retIX d_W_plain_158 rfl rfl
  exact y_none
noncomputable def P_W_deed (Θ : mW) (N : Nat) (h : mH) (a0 : Nat) (a1 : Int32) (a2 : Int32) (a3 : Int32) (a4 : Int32) : Option (Int32 × mH) :=
  (bx (P_W_plain Θ N h a0 a1 a2 a3 a4) (fun v2 h1 => (some (v2, h1))) (fun n9 h3 => if n9 = 10 then (some ((J (-2004)), h3)) else if n9 = 11 then (some ((J (-2003)), h3)) else if n9 = 12 then (some ((J (-2005)), h3)) else if n9 = 13 then (some ((J (-2001)), h3)) else none))
theorem S_W_deed (hfl : HF l Θ) (hD : 12 ≤ d) (h : mH) (a0 : Nat) (a1 : Int32) (a2 : Int32) (a3 : Int32) (a4 : Int32) : mMs l Θ d M_W_deed [.ref a0, .int a1, .int a2, .int a3, .int a4] h (tR vI) (P_W_deed Θ N h a0 a1 a2 a3 a4) := by
  refine mMs.of hfl (by decide +kernel) rfl (Nat.le_of_ble_eq_true rfl) (loc := [some (.ref a0), some (.int a1), some (.int a2), some (.int a3), some (.int a4), none]) rfl ?_
  unfold P_W_deed
  refine y_aload_n d_W_deed_0 rfl ?_
  refine y_iload_n d_W_deed_1 rfl ?_
  refine y_iload_n d_W_deed_2 rfl ?_
  refine y_iload_n d_W_deed_3 rfl ?_
  refine y_iload d_W_deed_4 rfl ?_
  refine y_xI (c_st (rest := []) d_W_deed_6 k_W_plain s_W_63 rfl rfl (Nat.le_of_ble_eq_true rfl) (Nat.le_trans (Nat.le_of_ble_eq_true rfl : 11 + 1 ≤ 12) hD) (S_W_plain hfl (Nat.le_refl _) h a0 a1 a2 a3 a4)) (fun v2 h1 => ?_) (fun n9 h3 => y_h1 (show mCatch M_W_deed 6 10 28 from ⟨[(0, 9, 10, 67), (0, 9, 16, 69), (0, 9, 22, 71)], (0, 9, 28, 73), [], "java/util/NoSuchElementException", rfl, by decide, by decide, rfl, mG (2, 101) (by decide +kernel), mN (3, 14) (by decide +kernel), (by intro z hz; simp only [List.mem_cons, List.not_mem_nil, or_false] at hz; rcases hz with rfl | rfl | rfl <;> first | exact ⟨by decide, "java/lang/IllegalArgumentException", mG (2, 98) (by decide +kernel), by decide +kernel⟩ | exact ⟨by decide, "java/lang/IllegalStateException", mG (2, 99) (by decide +kernel), by decide +kernel⟩ | exact ⟨by decide, "java/lang/UnsupportedOperationException", mG (2, 100) (by decide +kernel), by decide +kernel⟩)⟩) (fun q4 => ?_) (y_h1 (show mCatch M_W_deed 6 11 10 from ⟨[], (0, 9, 10, 67), [(0, 9, 16, 69), (0, 9, 22, 71), (0, 9, 28, 73)], "java/lang/IllegalArgumentException", rfl, by decide, by decide, rfl, mG (2, 98) (by decide +kernel), mN (2, 142) (by decide +kernel), (fun z hz => absurd hz List.not_mem_nil)⟩) (fun q4 => ?_) (y_h1 (show mCatch M_W_deed 6 12 16 from ⟨[(0, 9, 10, 67)], (0, 9, 16, 69), [(0, 9, 22, 71), (0, 9, 28, 73)], "java/lang/IllegalStateException", rfl, by decide, by decide, rfl, mG (2, 99) (by decide +kernel), mN (2, 214) (by decide +kernel), (by intro z hz; simp only [List.mem_cons, List.not_mem_nil, or_false] at hz; rcases hz with rfl <;> first | exact ⟨by decide, "java/lang/IllegalArgumentException", mG (2, 98) (by decide +kernel), by decide +kernel⟩)⟩) (fun q4 => ?_) (y_h1 (show mCatch M_W_deed 6 13 22 from ⟨[(0, 9, 10, 67), (0, 9, 16, 69)], (0, 9, 22, 71), [(0, 9, 28, 73)], "java/lang/UnsupportedOperationException", rfl, by decide, by decide, rfl, mG (2, 100) (by decide +kernel), mN (3, 75) (by decide +kernel), (by intro z hz; simp only [List.mem_cons, List.not_mem_nil, or_false] at hz; rcases hz with rfl | rfl <;> first | exact ⟨by decide, "java/lang/IllegalArgumentException", mG (2, 98) (by decide +kernel), by decide +kernel⟩ | exact ⟨by decide, "java/lang/IllegalStateException", mG (2, 99) (by decide +kernel), by decide +kernel⟩)⟩) (fun q4 => ?_) (y_h0)))))
  · exact y_retI d_W_deed_9 rfl rfl
  · refine y_astore (loc2 := [some (.ref a0), some (.int a1), some (.int a2), some (.int a3), some (.int a4), some (.ref q4)]) d_W_deed_28 (Nat.le_of_ble_eq_true rfl) rfl rfl ?_
    refine y_sipush (v := (J (-2004))) d_W_deed_30 (by decide +kernel) ?_
    exact y_retI d_W_deed_33 rfl rfl
  · refine y_astore (loc2 := [some (.ref a0), some (.int a1), some (.int a2), some (.int a3), some (.int a4), some (.ref q4)]) d_W_deed_10 (Nat.le_of_ble_eq_true rfl) rfl rfl ?_
    refine y_sipush (v := (J (-2003))) d_W_deed_12 (by decide +kernel) ?_
    exact y_retI d_W_deed_15 rfl rfl
  · refine y_astore (loc2 := [some (.ref a0), some (.int a1), some (.int a2), some (.int a3), some (.int a4), some (.ref q4)]) d_W_deed_16 (Nat.le_of_ble_eq_true rfl) rfl rfl ?_
    refine y_sipush (v := (J (-2005))) d_W_deed_18 (by decide +kernel) ?_
    exact y_retI d_W_deed_21 rfl rfl
  · refine y_astore (loc2 := [some (.ref a0), some (.int a1), some (.int a2), some (.int a3), some (.int a4), some (.ref q4)]) d_W_deed_22 (Nat.le_of_ble_eq_true rfl) rfl rfl ?_
    refine y_sipush (v := (J (-2001))) d_W_deed_24 (by decide +kernel) ?_
    exact y_retI d_W_deed_27 rfl rfl
noncomputable def B_W_lay_32 (Θ : mW) (N : Nat) (K70 : mH → Int32 → Option (Unit × mH)) (f0_ : Nat) (rc : mH → Int32 → Int32 → Option (Unit × mH)) (h : mH) (v2_ : Int32) (v3_ : Int32) : Option (Unit × mH) :=
  (bc (P_W_pick Θ N h (J 0) (J 24)) (fun v8 h7 => (if v8 ≤ v3_ then (K70 h7 v2_) else (bc (P_W_pick Θ N h7 ((J 11) + v3_) (J 60)) (fun v10 h9 => (bc (P_W_deed Θ N h9 f0_ (J 8) v10 (J 0) (J 0)) (fun v12 h11 => (rc h11 (v2_ + v12) (v3_ + (J 1))))))))))
noncomputable def P_W_lay_32 (Θ : mW) (N : Nat) (K70 : mH → Int32 → Option (Unit × mH)) (f0_ : Nat) : Nat → mH → Int32 → Int32 → Option (Unit × mH) :=
  lp (fun _ _ _ => none) (B_W_lay_32 Θ N K70 f0_)
noncomputable def B_W_lay_120 (Θ : mW) (N : Nat) (K160 : mH → Int32 → Option (Unit × mH)) (f0_ : Nat) (rc : mH → Int32 → Int32 → Option (Unit × mH)) (h : mH) (v2_ : Int32) (v3_ : Int32) : Option (Unit × mH) :=
  (if (J 12) ≤ v3_ then (K160 h v2_) else (gO Θ h 0 f0_ (bc (P_F_isGateOpen Θ N h f0_) (fun v26 h25 => (if v26 = 0 then (bc (P_W_deed Θ N h25 f0_ (J 5) (J 1) (J 0) (J 0)) (fun v28 h27 => (bc (P_W_deed Θ N h27 f0_ (J 7) (J 1) (J 0) (J 0)) (fun v30 h29 => (rc h29 (v2_ + (v28 + v30)) (v3_ + (J 1))))))) else (K160 h25 v2_))))))
noncomputable def P_W_lay_120 (Θ : mW) (N : Nat) (K160 : mH → Int32 → Option (Unit × mH)) (f0_ : Nat) : Nat → mH → Int32 → Int32 → Option (Unit × mH) :=
  lp (fun _ _ _ => none) (B_W_lay_120 Θ N K160 f0_)
noncomputable def B_W_lay_162 (Θ : mW) (N : Nat) (K279 : mH → Int32 → Option (Unit × mH)) (f0_ : Nat) (rc : mH → Int32 → Int32 → Option (Unit × mH)) (h : mH) (v2_ : Int32) (v3_ : Int32) : Option (Unit × mH) :=
  (bc (P_W_pick Θ N h (J 3) (J 8)) (fun v34 h33 => (if ((J 1) + v34) ≤ v3_ then (K279 h33 v2_) else (bc (P_W_pick Θ N h33 ((J 51) + v3_) (J 2)) (fun v36 h35 => (jn (fun (h38 : mH) (s39 : Int32) => (bc (P_W_pick Θ N h38 ((J 41) + v3_) s39) (fun v41 h40 => (bc (P_W_pick Θ N h40 ((J 61) + v3_) (J 76)) (fun v43 h42 => (bc (P_W_pick Θ N h42 ((J 71) + v3_) (J 100)) (fun v45 h44 => (bc (P_W_deed Θ N h44 f0_ (J 0) ((J 5) + v41) ((J 5) + v43) v45) (fun v47 h46 => (bc (P_W_pick Θ N h46 ((J 81) + v3_) (J 56)) (fun v49 h48 => (bc (P_W_deed Θ N h48 f0_ (J 2) v3_ v49 (J 0)) (fun v51 h50 => (bc (P_W_pick Θ N h50 ((J 91) + v3_) (J 2)) (fun v53 h52 => (bc (P_W_deed Θ N h52 f0_ (J 4) v3_ (J 1) (J 0)) (fun v55 h54 => (rc h54 ((v2_ + v47) + (v51 + (v53 * v55))) (v3_ + (J 1)))))))))))))))))))) (fun j37 => (if v36 = 0 then (j37 h35 (J 8)) else (j37 h35 (J 26))))))))))
noncomputable def P_W_lay_162 (Θ : mW) (N : Nat) (K279 : mH → Int32 → Option (Unit × mH)) (f0_ : Nat) : Nat → mH → Int32 → Int32 → Option (Unit × mH) :=
  lp (fun _ _ _ => none) (B_W_lay_162 Θ N K279 f0_)
noncomputable def P_W_lay (Θ : mW) (N : Nat) (h : mH) (a0 : Nat) : Option (Unit × mH) :=
  (bc (P_W_deed Θ N h a0 (J 5) (J 0) (J 0) (J 0)) (fun v2 h1 => (bc (P_W_deed Θ N h1 a0 (J 6) (J (-30)) (J 0) (J 0)) (fun v4 h3 => (bc (P_W_deed Θ N h3 a0 (J 7) (J 4) (J 0) (J 0)) (fun v6 h5 => (P_W_lay_32 Θ N (fun h13 u14 => (bc (P_W_pick Θ N h13 (J 1) (J 11)) (fun v16 h15 => (bc (P_W_deed Θ N h15 a0 (J 6) ((J 20) + v16) (J 0) (J 0)) (fun v18 h17 => (bc (P_W_pick Θ N h17 (J 2) (J 3)) (fun v20 h19 => (bc (P_W_deed Θ N h19 a0 (J 7) ((J 5) + v20) (J 0) (J 0)) (fun v22 h21 => (bc (P_W_deed Θ N h21 a0 (J 6) (J 0) (J 0) (J 0)) (fun v24 h23 => (P_W_lay_120 Θ N (fun h31 u32 => (P_W_lay_162 Θ N (fun h56 u57 => (bc (P_W_pick Θ N h56 (J 4) (J 3)) (fun v59 h58 => (if v59 = 0 then (some ((), h58)) else (bc (P_W_deed Θ N h58 a0 (J 5) (J 0) (J 0) (J 0)) (fun v61 h60 => (bc (P_W_deed Θ N h60 a0 (J 6) (J (-20)) (J 0) (J 0)) (fun v63 h62 => (bc (P_W_pick Θ N h62 (J 5) (J 8)) (fun v65 h64 => (bc (P_W_deed Θ N h64 a0 (J 7) ((J 1) + v65) (J 0) (J 0)) (fun v67 h66 => (some ((), h66)))))))))))))) a0 N h31 u32 (J 0))) a0 N h23 (u14 + ((v18 + v22) + v24)) (J 0))))))))))))) a0 N h5 ((v2 + v4) + v6) (J 0))))))))
theorem SB_W_lay_32 (hfl : HF l Θ) (hD : 13 ≤ d) {K70 : mH → Int32 → Option (Unit × mH)} {f0_ : Nat}  (hK70 : ∀ (h : mH) (v2_ : Int32), mY l Θ d M_W_lay 70 [some (.ref f0_), some (.ref (mwad Θ 40)), some (.int v2_), none] [] h (tR vU) (K70 h v2_)) (rc : mH → Int32 → Int32 → Option (Unit × mH)) (ih : ∀ (h : mH) (v2_ : Int32) (v3_ : Int32), mY l Θ d M_W_lay 32 [some (.ref f0_), some (.ref (mwad Θ 40)), some (.int v2_), some (.int v3_)] [] h (tR vU) (rc h v2_ v3_)) : ∀ (h : mH) (v2_ : Int32) (v3_ : Int32), mY l Θ d M_W_lay 32 [some (.ref f0_), some (.ref (mwad Θ 40)), some (.int v2_), some (.int v3_)] [] h (tR vU) (B_W_lay_32 Θ N K70 f0_ rc h v2_ v3_) := by
  intro h v2_ v3_
  unfold B_W_lay_32
  refine y_iload_n d_W_lay_32 rfl ?_
  refine y_aload_n d_W_lay_33 rfl ?_
  refine y_iconst (v := (J 0)) d_W_lay_34 rfl ?_
  refine y_bipush (v := (J 24)) d_W_lay_35 (by decide +kernel) ?_
  refine y_cI (c_st (rest := [.int v3_]) d_W_lay_37 k_W_pick s_W_127 rfl rfl (Nat.le_of_ble_eq_true rfl) (Nat.le_trans (Nat.le_of_ble_eq_true rfl : 2 + 1 ≤ 13) hD) (S_W_pick hfl (Nat.le_refl _) h (J 0) (J 24))) (fun v8 h7 => ?_)
  refine y_icmp_ge (tgt := 70) d_W_lay_40 (by decide) ?_ ?_
  · exact y_wk (loc2 := [some (.ref f0_), some (.ref (mwad Θ 40)), some (.int v2_), none]) ⟨rfl, ⟨rfl, ⟨rfl, trivial⟩⟩⟩ (hK70 h7 v2_)
  · refine y_iload_n d_W_lay_43 rfl ?_
    refine y_aload_n d_W_lay_44 rfl ?_
    refine y_bipush (v := (J 8)) d_W_lay_45 (by decide +kernel) ?_
    refine y_aload_n d_W_lay_47 rfl ?_
    refine y_bipush (v := (J 11)) d_W_lay_48 (by decide +kernel) ?_
    refine y_iload_n d_W_lay_50 rfl ?_
    refine y_iadd (v := ((J 11) + v3_)) d_W_lay_51 rfl ?_
    refine y_bipush (v := (J 60)) d_W_lay_52 (by decide +kernel) ?_
    refine y_cI (c_st (rest := [.int (J 8), .ref f0_, .int v2_]) d_W_lay_54 k_W_pick s_W_127 rfl rfl (Nat.le_of_ble_eq_true rfl) (Nat.le_trans (Nat.le_of_ble_eq_true rfl : 2 + 1 ≤ 13) hD) (S_W_pick hfl (Nat.le_refl _) h7 ((J 11) + v3_) (J 60))) (fun v10 h9 => ?_)
    refine y_iconst (v := (J 0)) d_W_lay_57 rfl ?_
    refine y_iconst (v := (J 0)) d_W_lay_58 rfl ?_
    refine y_cI (c_st (rest := [.int v2_]) d_W_lay_59 k_W_deed s_W_124 rfl rfl (Nat.le_of_ble_eq_true rfl) (Nat.le_trans (Nat.le_of_ble_eq_true rfl : 12 + 1 ≤ 13) hD) (S_W_deed hfl (Nat.le_refl _) h9 f0_ (J 8) v10 (J 0) (J 0))) (fun v12 h11 => ?_)
    refine y_iadd (v := (v2_ + v12)) d_W_lay_62 rfl ?_
    refine y_istore_n (loc2 := [some (.ref f0_), some (.ref (mwad Θ 40)), some (.int (v2_ + v12)), some (.int v3_)]) d_W_lay_63 (Nat.le_of_ble_eq_true rfl) rfl rfl ?_
    refine y_iinc (v := (v3_ + (J 1))) (loc2 := [some (.ref f0_), some (.ref (mwad Θ 40)), some (.int (v2_ + v12)), some (.int (v3_ + (J 1)))]) d_W_lay_64 rfl rfl (Nat.le_of_ble_eq_true rfl) rfl rfl ?_
    refine y_goto (tgt := 32) d_W_lay_67 (by decide) ?_
    exact ih h11 (v2_ + v12) (v3_ + (J 1))
theorem S_W_lay_32 (hfl : HF l Θ) (hD : 13 ≤ d) {K70 : mH → Int32 → Option (Unit × mH)} {f0_ : Nat}  (hK70 : ∀ (h : mH) (v2_ : Int32), mY l Θ d M_W_lay 70 [some (.ref f0_), some (.ref (mwad Θ 40)), some (.int v2_), none] [] h (tR vU) (K70 h v2_)) : ∀ (n : Nat) (h : mH) (v2_ : Int32) (v3_ : Int32), mY l Θ d M_W_lay 32 [some (.ref f0_), some (.ref (mwad Θ 40)), some (.int v2_), some (.int v3_)] [] h (tR vU) (P_W_lay_32 Θ N K70 f0_ n h v2_ v3_) :=
  fun n => lp_all (C := fun (rc : mH → Int32 → Int32 → Option (Unit × mH)) => ∀ (h : mH) (v2_ : Int32) (v3_ : Int32), mY l Θ d M_W_lay 32 [some (.ref f0_), some (.ref (mwad Θ 40)), some (.int v2_), some (.int v3_)] [] h (tR vU) (rc h v2_ v3_)) (fun _ _ _ => y_none) (fun rc ih => SB_W_lay_32 hfl hD hK70 rc ih) n
theorem SB_W_lay_120 (hfl : HF l Θ) (hD : 13 ≤ d) {K160 : mH → Int32 → Option (Unit × mH)} {f0_ : Nat}  (hK160 : ∀ (h : mH) (v2_ : Int32), mY l Θ d M_W_lay 160 [some (.ref f0_), some (.ref (mwad Θ 40)), some (.int v2_), none] [] h (tR vU) (K160 h v2_)) (rc : mH → Int32 → Int32 → Option (Unit × mH)) (ih : ∀ (h : mH) (v2_ : Int32) (v3_ : Int32), mY l Θ d M_W_lay 120 [some (.ref f0_), some (.ref (mwad Θ 40)), some (.int v2_), some (.int v3_)] [] h (tR vU) (rc h v2_ v3_)) : ∀ (h : mH) (v2_ : Int32) (v3_ : Int32), mY l Θ d M_W_lay 120 [some (.ref f0_), some (.ref (mwad Θ 40)), some (.int v2_), some (.int v3_)] [] h (tR vU) (B_W_lay_120 Θ N K160 f0_ rc h v2_ v3_) := by
  intro h v2_ v3_
  unfold B_W_lay_120
  refine y_iload_n d_W_lay_120 rfl ?_
  refine y_bipush (v := (J 12)) d_W_lay_121 (by decide +kernel) ?_
  refine y_icmp_ge (tgt := 160) d_W_lay_123 (by decide) ?_ ?_
  · exact y_wk (loc2 := [some (.ref f0_), some (.ref (mwad Θ 40)), some (.int v2_), none]) ⟨rfl, ⟨rfl, ⟨rfl, trivial⟩⟩⟩ (hK160 h v2_)
  · refine y_aload_n d_W_lay_126 rfl ?_
    refine y_gO (fun fs1 g1 => y_cI (c_vi (rest := []) d_W_lay_127 k_F_isGateOpen s_W_131 (Or.inl ⟨_, _, _, g1, rfl, rfl⟩) rfl rfl (Nat.le_of_ble_eq_true rfl) (Nat.le_trans (Nat.le_of_ble_eq_true rfl : 1 + 1 ≤ 13) hD) (S_F_isGateOpen hfl (Nat.le_refl _) h f0_)) (fun v26 h25 => ?_))
    refine y_if_ne (tgt := 160) d_W_lay_130 (by decide) ?_ ?_
    · exact y_wk (loc2 := [some (.ref f0_), some (.ref (mwad Θ 40)), some (.int v2_), none]) ⟨rfl, ⟨rfl, ⟨rfl, trivial⟩⟩⟩ (hK160 h25 v2_)
    · refine y_iload_n d_W_lay_133 rfl ?_
      refine y_aload_n d_W_lay_134 rfl ?_
      refine y_iconst (v := (J 5)) d_W_lay_135 rfl ?_
      refine y_iconst (v := (J 1)) d_W_lay_136 rfl ?_
      refine y_iconst (v := (J 0)) d_W_lay_137 rfl ?_
      refine y_iconst (v := (J 0)) d_W_lay_138 rfl ?_
      refine y_cI (c_st (rest := [.int v2_]) d_W_lay_139 k_W_deed s_W_124 rfl rfl (Nat.le_of_ble_eq_true rfl) (Nat.le_trans (Nat.le_of_ble_eq_true rfl : 12 + 1 ≤ 13) hD) (S_W_deed hfl (Nat.le_refl _) h25 f0_ (J 5) (J 1) (J 0) (J 0))) (fun v28 h27 => ?_)
      refine y_aload_n d_W_lay_142 rfl ?_
      refine y_bipush (v := (J 7)) d_W_lay_143 (by decide +kernel) ?_
      refine y_iconst (v := (J 1)) d_W_lay_145 rfl ?_
      refine y_iconst (v := (J 0)) d_W_lay_146 rfl ?_
      refine y_iconst (v := (J 0)) d_W_lay_147 rfl ?_
      refine y_cI (c_st (rest := [.int v28, .int v2_]) d_W_lay_148 k_W_deed s_W_124 rfl rfl (Nat.le_of_ble_eq_true rfl) (Nat.le_trans (Nat.le_of_ble_eq_true rfl : 12 + 1 ≤ 13) hD) (S_W_deed hfl (Nat.le_refl _) h27 f0_ (J 7) (J 1) (J 0) (J 0))) (fun v30 h29 => ?_)
      refine y_iadd (v := (v28 + v30)) d_W_lay_151 rfl ?_
      refine y_iadd (v := (v2_ + (v28 + v30))) d_W_lay_152 rfl ?_
      refine y_istore_n (loc2 := [some (.ref f0_), some (.ref (mwad Θ 40)), some (.int (v2_ + (v28 + v30))), some (.int v3_)]) d_W_lay_153 (Nat.le_of_ble_eq_true rfl) rfl rfl ?_
      refine y_iinc (v := (v3_ + (J 1))) (loc2 := [some (.ref f0_), some (.ref (mwad Θ 40)), some (.int (v2_ + (v28 + v30))), some (.int (v3_ + (J 1)))]) d_W_lay_154 rfl rfl (Nat.le_of_ble_eq_true rfl) rfl rfl ?_
      refine y_goto (tgt := 120) d_W_lay_157 (by decide) ?_
      exact ih h29 (v2_ + (v28 + v30)) (v3_ + (J 1))
theorem S_W_lay_120 (hfl : HF l Θ) (hD : 13 ≤ d) {K160 : mH → Int32 → Option (Unit × mH)} {f0_ : Nat}  (hK160 : ∀ (h : mH) (v2_ : Int32), mY l Θ d M_W_lay 160 [some (.ref f0_), some (.ref (mwad Θ 40)), some (.int v2_), none] [] h (tR vU) (K160 h v2_)) : ∀ (n : Nat) (h : mH) (v2_ : Int32) (v3_ : Int32), mY l Θ d M_W_lay 120 [some (.ref f0_), some (.ref (mwad Θ 40)), some (.int v2_), some (.int v3_)] [] h (tR vU) (P_W_lay_120 Θ N K160 f0_ n h v2_ v3_) :=
  fun n => lp_all (C := fun (rc : mH → Int32 → Int32 → Option (Unit × mH)) => ∀ (h : mH) (v2_ : Int32) (v3_ : Int32), mY l Θ d M_W_lay 120 [some (.ref f0_), some (.ref (mwad Θ 40)), some (.int v2_), some (.int v3_)] [] h (tR vU) (rc h v2_ v3_)) (fun _ _ _ => y_none) (fun rc ih => SB_W_lay_120 hfl hD hK160 rc ih) n
theorem SB_W_lay_162 (hfl : HF l Θ) (hD : 13 ≤ d) {K279 : mH → Int32 → Option (Unit × mH)} {f0_ : Nat}  (hK279 : ∀ (h : mH) (v2_ : Int32), mY l Θ d M_W_lay 279 [some (.ref f0_), some (.ref (mwad Θ 40)), some (.int v2_), none] [] h (tR vU) (K279 h v2_)) (rc : mH → Int32 → Int32 → Option (Unit × mH)) (ih : ∀ (h : mH) (v2_ : Int32) (v3_ : Int32), mY l Θ d M_W_lay 162 [some (.ref f0_), some (.ref (mwad Θ 40)), some (.int v2_), some (.int v3_)] [] h (tR vU) (rc h v2_ v3_)) : ∀ (h : mH) (v2_ : Int32) (v3_ : Int32), mY l Θ d M_W_lay 162 [some (.ref f0_), some (.ref (mwad Θ 40)), some (.int v2_), some (.int v3_)] [] h (tR vU) (B_W_lay_162 Θ N K279 f0_ rc h v2_ v3_) := by
  intro h v2_ v3_
  unfold B_W_lay_162
  refine y_iload_n d_W_lay_162 rfl ?_
  refine y_iconst (v := (J 1)) d_W_lay_163 rfl ?_
  refine y_aload_n d_W_lay_164 rfl ?_
  refine y_iconst (v := (J 3)) d_W_lay_165 rfl ?_
  refine y_bipush (v := (J 8)) d_W_lay_166 (by decide +kernel) ?_
  refine y_cI (c_st (rest := [.int (J 1), .int v3_]) d_W_lay_168 k_W_pick s_W_127 rfl rfl (Nat.le_of_ble_eq_true rfl) (Nat.le_trans (Nat.le_of_ble_eq_true rfl : 2 + 1 ≤ 13) hD) (S_W_pick hfl (Nat.le_refl _) h (J 3) (J 8))) (fun v34 h33 => ?_)
  refine y_iadd (v := ((J 1) + v34)) d_W_lay_171 rfl ?_
  refine y_icmp_ge (tgt := 279) d_W_lay_172 (by decide) ?_ ?_
  · exact y_wk (loc2 := [some (.ref f0_), some (.ref (mwad Θ 40)), some (.int v2_), none]) ⟨rfl, ⟨rfl, ⟨rfl, trivial⟩⟩⟩ (hK279 h33 v2_)
  · refine y_iload_n d_W_lay_175 rfl ?_
    refine y_aload_n d_W_lay_176 rfl ?_
    refine y_iconst (v := (J 0)) d_W_lay_177 rfl ?_
    refine y_iconst (v := (J 5)) d_W_lay_178 rfl ?_
    refine y_aload_n d_W_lay_179 rfl ?_
    refine y_bipush (v := (J 41)) d_W_lay_180 (by decide +kernel) ?_
    refine y_iload_n d_W_lay_182 rfl ?_
    refine y_iadd (v := ((J 41) + v3_)) d_W_lay_183 rfl ?_
    refine y_aload_n d_W_lay_184 rfl ?_
    refine y_bipush (v := (J 51)) d_W_lay_185 (by decide +kernel) ?_
    refine y_iload_n d_W_lay_187 rfl ?_
    refine y_iadd (v := ((J 51) + v3_)) d_W_lay_188 rfl ?_
    refine y_iconst (v := (J 2)) d_W_lay_189 rfl ?_
    refine y_cI (c_st (rest := [.int ((J 41) + v3_), .ref (mwad Θ 40), .int (J 5), .int (J 0), .ref f0_, .int v2_]) d_W_lay_190 k_W_pick s_W_127 rfl rfl (Nat.le_of_ble_eq_true rfl) (Nat.le_trans (Nat.le_of_ble_eq_true rfl : 2 + 1 ≤ 13) hD) (S_W_pick hfl (Nat.le_refl _) h33 ((J 51) + v3_) (J 2))) (fun v36 h35 => ?_)
    refine y_jn (C := fun (j9 : mH → Int32 → Option (Unit × mH)) => ∀ (h38 : mH) (s39 : Int32), mY l Θ d M_W_lay 203 [some (.ref f0_), some (.ref (mwad Θ 40)), none, some (.int v3_)] [.int s39, .int ((J 41) + v3_), .ref (mwad Θ 40), .int (J 5), .int (J 0), .ref f0_, .int v2_] h38 (tR vU) (j9 h38 s39)) (fun h38 s39 => ?_) (fun j37 Hj37 => ?_)
    · refine y_cI (c_st (rest := [.int (J 5), .int (J 0), .ref f0_, .int v2_]) d_W_lay_203 k_W_pick s_W_127 rfl rfl (Nat.le_of_ble_eq_true rfl) (Nat.le_trans (Nat.le_of_ble_eq_true rfl : 2 + 1 ≤ 13) hD) (S_W_pick hfl (Nat.le_refl _) h38 ((J 41) + v3_) s39)) (fun v41 h40 => ?_)
      refine y_iadd (v := ((J 5) + v41)) d_W_lay_206 rfl ?_
      refine y_iconst (v := (J 5)) d_W_lay_207 rfl ?_
      refine y_aload_n d_W_lay_208 rfl ?_
      refine y_bipush (v := (J 61)) d_W_lay_209 (by decide +kernel) ?_
      refine y_iload_n d_W_lay_211 rfl ?_
      refine y_iadd (v := ((J 61) + v3_)) d_W_lay_212 rfl ?_
      refine y_bipush (v := (J 76)) d_W_lay_213 (by decide +kernel) ?_
      refine y_cI (c_st (rest := [.int (J 5), .int ((J 5) + v41), .int (J 0), .ref f0_, .int v2_]) d_W_lay_215 k_W_pick s_W_127 rfl rfl (Nat.le_of_ble_eq_true rfl) (Nat.le_trans (Nat.le_of_ble_eq_true rfl : 2 + 1 ≤ 13) hD) (S_W_pick hfl (Nat.le_refl _) h40 ((J 61) + v3_) (J 76))) (fun v43 h42 => ?_)
      refine y_iadd (v := ((J 5) + v43)) d_W_lay_218 rfl ?_
      refine y_aload_n d_W_lay_219 rfl ?_
      refine y_bipush (v := (J 71)) d_W_lay_220 (by decide +kernel) ?_
      refine y_iload_n d_W_lay_222 rfl ?_
      refine y_iadd (v := ((J 71) + v3_)) d_W_lay_223 rfl ?_
      refine y_bipush (v := (J 100)) d_W_lay_224 (by decide +kernel) ?_
      refine y_cI (c_st (rest := [.int ((J 5) + v43), .int ((J 5) + v41), .int (J 0), .ref f0_, .int v2_]) d_W_lay_226 k_W_pick s_W_127 rfl rfl (Nat.le_of_ble_eq_true rfl) (Nat.le_trans (Nat.le_of_ble_eq_true rfl : 2 + 1 ≤ 13) hD) (S_W_pick hfl (Nat.le_refl _) h42 ((J 71) + v3_) (J 100))) (fun v45 h44 => ?_)
      refine y_cI (c_st (rest := [.int v2_]) d_W_lay_229 k_W_deed s_W_124 rfl rfl (Nat.le_of_ble_eq_true rfl) (Nat.le_trans (Nat.le_of_ble_eq_true rfl : 12 + 1 ≤ 13) hD) (S_W_deed hfl (Nat.le_refl _) h44 f0_ (J 0) ((J 5) + v41) ((J 5) + v43) v45)) (fun v47 h46 => ?_)
      refine y_iadd (v := (v2_ + v47)) d_W_lay_232 rfl ?_
      refine y_istore_n (loc2 := [some (.ref f0_), some (.ref (mwad Θ 40)), some (.int (v2_ + v47)), some (.int v3_)]) d_W_lay_233 (Nat.le_of_ble_eq_true rfl) rfl rfl ?_
      refine y_iload_n d_W_lay_234 rfl ?_
      refine y_aload_n d_W_lay_235 rfl ?_
      refine y_iconst (v := (J 2)) d_W_lay_236 rfl ?_
      refine y_iload_n d_W_lay_237 rfl ?_
      refine y_aload_n d_W_lay_238 rfl ?_
      refine y_bipush (v := (J 81)) d_W_lay_239 (by decide +kernel) ?_
      refine y_iload_n d_W_lay_241 rfl ?_
      refine y_iadd (v := ((J 81) + v3_)) d_W_lay_242 rfl ?_
      refine y_bipush (v := (J 56)) d_W_lay_243 (by decide +kernel) ?_
      refine y_cI (c_st (rest := [.int v3_, .int (J 2), .ref f0_, .int (v2_ + v47)]) d_W_lay_245 k_W_pick s_W_127 rfl rfl (Nat.le_of_ble_eq_true rfl) (Nat.le_trans (Nat.le_of_ble_eq_true rfl : 2 + 1 ≤ 13) hD) (S_W_pick hfl (Nat.le_refl _) h46 ((J 81) + v3_) (J 56))) (fun v49 h48 => ?_)
      refine y_iconst (v := (J 0)) d_W_lay_248 rfl ?_
      refine y_cI (c_st (rest := [.int (v2_ + v47)]) d_W_lay_249 k_W_deed s_W_124 rfl rfl (Nat.le_of_ble_eq_true rfl) (Nat.le_trans (Nat.le_of_ble_eq_true rfl : 12 + 1 ≤ 13) hD) (S_W_deed hfl (Nat.le_refl _) h48 f0_ (J 2) v3_ v49 (J 0))) (fun v51 h50 => ?_)
      refine y_aload_n d_W_lay_252 rfl ?_
      refine y_bipush (v := (J 91)) d_W_lay_253 (by decide +kernel) ?_
      refine y_iload_n d_W_lay_255 rfl ?_
      refine y_iadd (v := ((J 91) + v3_)) d_W_lay_256 rfl ?_
      refine y_iconst (v := (J 2)) d_W_lay_257 rfl ?_
      refine y_cI (c_st (rest := [.int v51, .int (v2_ + v47)]) d_W_lay_258 k_W_pick s_W_127 rfl rfl (Nat.le_of_ble_eq_true rfl) (Nat.le_trans (Nat.le_of_ble_eq_true rfl : 2 + 1 ≤ 13) hD) (S_W_pick hfl (Nat.le_refl _) h50 ((J 91) + v3_) (J 2))) (fun v53 h52 => ?_)
      refine y_aload_n d_W_lay_261 rfl ?_
      refine y_iconst (v := (J 4)) d_W_lay_262 rfl ?_
      refine y_iload_n d_W_lay_263 rfl ?_
      refine y_iconst (v := (J 1)) d_W_lay_264 rfl ?_
      refine y_iconst (v := (J 0)) d_W_lay_265 rfl ?_
      refine y_cI (c_st (rest := [.int v53, .int v51, .int (v2_ + v47)]) d_W_lay_266 k_W_deed s_W_124 rfl rfl (Nat.le_of_ble_eq_true rfl) (Nat.le_trans (Nat.le_of_ble_eq_true rfl : 12 + 1 ≤ 13) hD) (S_W_deed hfl (Nat.le_refl _) h52 f0_ (J 4) v3_ (J 1) (J 0))) (fun v55 h54 => ?_)
      refine y_imul (v := (v53 * v55)) d_W_lay_269 rfl ?_
      refine y_iadd (v := (v51 + (v53 * v55))) d_W_lay_270 rfl ?_
      refine y_iadd (v := ((v2_ + v47) + (v51 + (v53 * v55)))) d_W_lay_271 rfl ?_
      refine y_istore_n (loc2 := [some (.ref f0_), some (.ref (mwad Θ 40)), some (.int ((v2_ + v47) + (v51 + (v53 * v55)))), some (.int v3_)]) d_W_lay_272 (Nat.le_of_ble_eq_true rfl) rfl rfl ?_
      refine y_iinc (v := (v3_ + (J 1))) (loc2 := [some (.ref f0_), some (.ref (mwad Θ 40)), some (.int ((v2_ + v47) + (v51 + (v53 * v55)))), some (.int (v3_ + (J 1)))]) d_W_lay_273 rfl rfl (Nat.le_of_ble_eq_true rfl) rfl rfl ?_
      refine y_goto (tgt := 162) d_W_lay_276 (by decide) ?_
      exact ih h54 ((v2_ + v47) + (v51 + (v53 * v55))) (v3_ + (J 1))
    · refine y_if_ne (tgt := 201) d_W_lay_193 (by decide) ?_ ?_
      · refine y_bipush (v := (J 26)) d_W_lay_201 (by decide +kernel) ?_
        exact y_wk (loc2 := [some (.ref f0_), some (.ref (mwad Θ 40)), none, some (.int v3_)]) ⟨rfl, ⟨rfl, ⟨rfl, trivial⟩⟩⟩ (Hj37 h35 (J 26))
      · refine y_bipush (v := (J 8)) d_W_lay_196 (by decide +kernel) ?_
        refine y_goto (tgt := 203) d_W_lay_198 (by decide) ?_
        exact y_wk (loc2 := [some (.ref f0_), some (.ref (mwad Θ 40)), none, some (.int v3_)]) ⟨rfl, ⟨rfl, ⟨rfl, trivial⟩⟩⟩ (Hj37 h35 (J 8))
theorem S_W_lay_162 (hfl : HF l Θ) (hD : 13 ≤ d) {K279 : mH → Int32 → Option (Unit × mH)} {f0_ : Nat}  (hK279 : ∀ (h : mH) (v2_ : Int32), mY l Θ d M_W_lay 279 [some (.ref f0_), some (.ref (mwad Θ 40)), some (.int v2_), none] [] h (tR vU) (K279 h v2_)) : ∀ (n : Nat) (h : mH) (v2_ : Int32) (v3_ : Int32), mY l Θ d M_W_lay 162 [some (.ref f0_), some (.ref (mwad Θ 40)), some (.int v2_), some (.int v3_)] [] h (tR vU) (P_W_lay_162 Θ N K279 f0_ n h v2_ v3_) :=
  fun n => lp_all (C := fun (rc : mH → Int32 → Int32 → Option (Unit × mH)) => ∀ (h : mH) (v2_ : Int32) (v3_ : Int32), mY l Θ d M_W_lay 162 [some (.ref f0_), some (.ref (mwad Θ 40)), some (.int v2_), some (.int v3_)] [] h (tR vU) (rc h v2_ v3_)) (fun _ _ _ => y_none) (fun rc ih => SB_W_lay_162 hfl hD hK279 rc ih) n
theorem S_W_lay (hfl : HF l Θ) (hD : 13 ≤ d) (h : mH) (a0 : Nat) : mMs l Θ d M_W_lay [.ref a0, .ref (mwad Θ 40)] h (tR vU) (P_W_lay Θ N h a0) := by
  refine mMs.of hfl (by decide +kernel) rfl (Nat.le_of_ble_eq_true rfl) (loc := [some (.ref a0), some (.ref (mwad Θ 40)), none, none]) rfl ?_
  unfold P_W_lay
  refine y_aload_n d_W_lay_0 rfl ?_
  refine y_iconst (v := (J 5)) d_W_lay_1 rfl ?_
  refine y_iconst (v := (J 0)) d_W_lay_2 rfl ?_
  refine y_iconst (v := (J 0)) d_W_lay_3 rfl ?_
  refine y_iconst (v := (J 0)) d_W_lay_4 rfl ?_
  refine y_cI (c_st (rest := []) d_W_lay_5 k_W_deed s_W_124 rfl rfl (Nat.le_of_ble_eq_true rfl) (Nat.le_trans (Nat.le_of_ble_eq_true rfl : 12 + 1 ≤ 13) hD) (S_W_deed hfl (Nat.le_refl _) h a0 (J 5) (J 0) (J 0) (J 0))) (fun v2 h1 => ?_)
  refine y_aload_n d_W_lay_8 rfl ?_
  refine y_bipush (v := (J 6)) d_W_lay_9 (by decide +kernel) ?_
  refine y_bipush (v := (J (-30))) d_W_lay_11 (by decide +kernel) ?_
  refine y_iconst (v := (J 0)) d_W_lay_13 rfl ?_
  refine y_iconst (v := (J 0)) d_W_lay_14 rfl ?_
  refine y_cI (c_st (rest := [.int v2]) d_W_lay_15 k_W_deed s_W_124 rfl rfl (Nat.le_of_ble_eq_true rfl) (Nat.le_trans (Nat.le_of_ble_eq_true rfl : 12 + 1 ≤ 13) hD) (S_W_deed hfl (Nat.le_refl _) h1 a0 (J 6) (J (-30)) (J 0) (J 0))) (fun v4 h3 => ?_)
  refine y_iadd (v := (v2 + v4)) d_W_lay_18 rfl ?_
  refine y_aload_n d_W_lay_19 rfl ?_
  refine y_bipush (v := (J 7)) d_W_lay_20 (by decide +kernel) ?_
  refine y_iconst (v := (J 4)) d_W_lay_22 rfl ?_
  refine y_iconst (v := (J 0)) d_W_lay_23 rfl ?_
  refine y_iconst (v := (J 0)) d_W_lay_24 rfl ?_
  refine y_cI (c_st (rest := [.int (v2 + v4)]) d_W_lay_25 k_W_deed s_W_124 rfl rfl (Nat.le_of_ble_eq_true rfl) (Nat.le_trans (Nat.le_of_ble_eq_true rfl : 12 + 1 ≤ 13) hD) (S_W_deed hfl (Nat.le_refl _) h3 a0 (J 7) (J 4) (J 0) (J 0))) (fun v6 h5 => ?_)
  refine y_iadd (v := ((v2 + v4) + v6)) d_W_lay_28 rfl ?_
  refine y_istore_n (loc2 := [some (.ref a0), some (.ref (mwad Θ 40)), some (.int ((v2 + v4) + v6)), none]) d_W_lay_29 (Nat.le_of_ble_eq_true rfl) rfl rfl ?_
  refine y_iconst (v := (J 0)) d_W_lay_30 rfl ?_
  refine y_istore_n (loc2 := [some (.ref a0), some (.ref (mwad Θ 40)), some (.int ((v2 + v4) + v6)), some (.int (J 0))]) d_W_lay_31 (Nat.le_of_ble_eq_true rfl) rfl rfl ?_
  refine S_W_lay_32 hfl hD (fun h13 u14 => ?_) N h5 ((v2 + v4) + v6) (J 0)
  refine y_iload_n d_W_lay_70 rfl ?_
  refine y_aload_n d_W_lay_71 rfl ?_
  refine y_bipush (v := (J 6)) d_W_lay_72 (by decide +kernel) ?_
  refine y_bipush (v := (J 20)) d_W_lay_74 (by decide +kernel) ?_
  refine y_aload_n d_W_lay_76 rfl ?_
  refine y_iconst (v := (J 1)) d_W_lay_77 rfl ?_
  refine y_bipush (v := (J 11)) d_W_lay_78 (by decide +kernel) ?_
  refine y_cI (c_st (rest := [.int (J 20), .int (J 6), .ref a0, .int u14]) d_W_lay_80 k_W_pick s_W_127 rfl rfl (Nat.le_of_ble_eq_true rfl) (Nat.le_trans (Nat.le_of_ble_eq_true rfl : 2 + 1 ≤ 13) hD) (S_W_pick hfl (Nat.le_refl _) h13 (J 1) (J 11))) (fun v16 h15 => ?_)
  refine y_iadd (v := ((J 20) + v16)) d_W_lay_83 rfl ?_
  refine y_iconst (v := (J 0)) d_W_lay_84 rfl ?_
  refine y_iconst (v := (J 0)) d_W_lay_85 rfl ?_
  refine y_cI (c_st (rest := [.int u14]) d_W_lay_86 k_W_deed s_W_124 rfl rfl (Nat.le_of_ble_eq_true rfl) (Nat.le_trans (Nat.le_of_ble_eq_true rfl : 12 + 1 ≤ 13) hD) (S_W_deed hfl (Nat.le_refl _) h15 a0 (J 6) ((J 20) + v16) (J 0) (J 0))) (fun v18 h17 => ?_)
  refine y_aload_n d_W_lay_89 rfl ?_
  refine y_bipush (v := (J 7)) d_W_lay_90 (by decide +kernel) ?_
  refine y_iconst (v := (J 5)) d_W_lay_92 rfl ?_
  refine y_aload_n d_W_lay_93 rfl ?_
  refine y_iconst (v := (J 2)) d_W_lay_94 rfl ?_
  refine y_iconst (v := (J 3)) d_W_lay_95 rfl ?_
  refine y_cI (c_st (rest := [.int (J 5), .int (J 7), .ref a0, .int v18, .int u14]) d_W_lay_96 k_W_pick s_W_127 rfl rfl (Nat.le_of_ble_eq_true rfl) (Nat.le_trans (Nat.le_of_ble_eq_true rfl : 2 + 1 ≤ 13) hD) (S_W_pick hfl (Nat.le_refl _) h17 (J 2) (J 3))) (fun v20 h19 => ?_)
  refine y_iadd (v := ((J 5) + v20)) d_W_lay_99 rfl ?_
  refine y_iconst (v := (J 0)) d_W_lay_100 rfl ?_
  refine y_iconst (v := (J 0)) d_W_lay_101 rfl ?_
  refine y_cI (c_st (rest := [.int v18, .int u14]) d_W_lay_102 k_W_deed s_W_124 rfl rfl (Nat.le_of_ble_eq_true rfl) (Nat.le_trans (Nat.le_of_ble_eq_true rfl : 12 + 1 ≤ 13) hD) (S_W_deed hfl (Nat.le_refl _) h19 a0 (J 7) ((J 5) + v20) (J 0) (J 0))) (fun v22 h21 => ?_)
  refine y_iadd (v := (v18 + v22)) d_W_lay_105 rfl ?_
  refine y_aload_n d_W_lay_106 rfl ?_
  refine y_bipush (v := (J 6)) d_W_lay_107 (by decide +kernel) ?_
  refine y_iconst (v := (J 0)) d_W_lay_109 rfl ?_
  refine y_iconst (v := (J 0)) d_W_lay_110 rfl ?_
  refine y_iconst (v := (J 0)) d_W_lay_111 rfl ?_
  refine y_cI (c_st (rest := [.int (v18 + v22), .int u14]) d_W_lay_112 k_W_deed s_W_124 rfl rfl (Nat.le_of_ble_eq_true rfl) (Nat.le_trans (Nat.le_of_ble_eq_true rfl : 12 + 1 ≤ 13) hD) (S_W_deed hfl (Nat.le_refl _) h21 a0 (J 6) (J 0) (J 0) (J 0))) (fun v24 h23 => ?_)
  refine y_iadd (v := ((v18 + v22) + v24)) d_W_lay_115 rfl ?_
  refine y_iadd (v := (u14 + ((v18 + v22) + v24))) d_W_lay_116 rfl ?_
  refine y_istore_n (loc2 := [some (.ref a0), some (.ref (mwad Θ 40)), some (.int (u14 + ((v18 + v22) + v24))), none]) d_W_lay_117 (Nat.le_of_ble_eq_true rfl) rfl rfl ?_
  refine y_iconst (v := (J 0)) d_W_lay_118 rfl ?_
  refine y_istore_n (loc2 := [some (.ref a0), some (.ref (mwad Θ 40)), some (.int (u14 + ((v18 + v22) + v24))), some (.int (J 0))]) d_W_lay_119 (Nat.le_of_ble_eq_true rfl) rfl rfl ?_
  refine S_W_lay_120 hfl hD (fun h31 u32 => ?_) N h23 (u14 + ((v18 + v22) + v24)) (J 0)
  refine y_iconst (v := (J 0)) d_W_lay_160 rfl ?_
  refine y_istore_n (loc2 := [some (.ref a0), some (.ref (mwad Θ 40)), some (.int u32), some (.int (J 0))]) d_W_lay_161 (Nat.le_of_ble_eq_true rfl) rfl rfl ?_
  refine S_W_lay_162 hfl hD (fun h56 u57 => ?_) N h31 u32 (J 0)
  refine y_iload_n d_W_lay_279 rfl ?_
  refine y_aload_n d_W_lay_280 rfl ?_
  refine y_iconst (v := (J 4)) d_W_lay_281 rfl ?_
  refine y_iconst (v := (J 3)) d_W_lay_282 rfl ?_
  refine y_cI (c_st (rest := [.int u57]) d_W_lay_283 k_W_pick s_W_127 rfl rfl (Nat.le_of_ble_eq_true rfl) (Nat.le_trans (Nat.le_of_ble_eq_true rfl : 2 + 1 ≤ 13) hD) (S_W_pick hfl (Nat.le_refl _) h56 (J 4) (J 3))) (fun v59 h58 => ?_)
  refine y_if_ne (tgt := 293) d_W_lay_286 (by decide) ?_ ?_
  · refine y_aload_n d_W_lay_293 rfl ?_
    refine y_iconst (v := (J 5)) d_W_lay_294 rfl ?_
    refine y_iconst (v := (J 0)) d_W_lay_295 rfl ?_
    refine y_iconst (v := (J 0)) d_W_lay_296 rfl ?_
    refine y_iconst (v := (J 0)) d_W_lay_297 rfl ?_
    refine y_cI (c_st (rest := [.int u57]) d_W_lay_298 k_W_deed s_W_124 rfl rfl (Nat.le_of_ble_eq_true rfl) (Nat.le_trans (Nat.le_of_ble_eq_true rfl : 12 + 1 ≤ 13) hD) (S_W_deed hfl (Nat.le_refl _) h58 a0 (J 5) (J 0) (J 0) (J 0))) (fun v61 h60 => ?_)
    refine y_aload_n d_W_lay_301 rfl ?_
    refine y_bipush (v := (J 6)) d_W_lay_302 (by decide +kernel) ?_
    refine y_bipush (v := (J (-20))) d_W_lay_304 (by decide +kernel) ?_
    refine y_iconst (v := (J 0)) d_W_lay_306 rfl ?_
    refine y_iconst (v := (J 0)) d_W_lay_307 rfl ?_
    refine y_cI (c_st (rest := [.int v61, .int u57]) d_W_lay_308 k_W_deed s_W_124 rfl rfl (Nat.le_of_ble_eq_true rfl) (Nat.le_trans (Nat.le_of_ble_eq_true rfl : 12 + 1 ≤ 13) hD) (S_W_deed hfl (Nat.le_refl _) h60 a0 (J 6) (J (-20)) (J 0) (J 0))) (fun v63 h62 => ?_)
    refine y_iadd (v := (v61 + v63)) d_W_lay_311 rfl ?_
    refine y_aload_n d_W_lay_312 rfl ?_
    refine y_bipush (v := (J 7)) d_W_lay_313 (by decide +kernel) ?_
    refine y_iconst (v := (J 1)) d_W_lay_315 rfl ?_
    refine y_aload_n d_W_lay_316 rfl ?_
    refine y_iconst (v := (J 5)) d_W_lay_317 rfl ?_
    refine y_bipush (v := (J 8)) d_W_lay_318 (by decide +kernel) ?_
    refine y_cI (c_st (rest := [.int (J 1), .int (J 7), .ref a0, .int (v61 + v63), .int u57]) d_W_lay_320 k_W_pick s_W_127 rfl rfl (Nat.le_of_ble_eq_true rfl) (Nat.le_trans (Nat.le_of_ble_eq_true rfl : 2 + 1 ≤ 13) hD) (S_W_pick hfl (Nat.le_refl _) h62 (J 5) (J 8))) (fun v65 h64 => ?_)
    refine y_iadd (v := ((J 1) + v65)) d_W_lay_323 rfl ?_
    refine y_iconst (v := (J 0)) d_W_lay_324 rfl ?_
    refine y_iconst (v := (J 0)) d_W_lay_325 rfl ?_
    refine y_cI (c_st (rest := [.int (v61 + v63), .int u57]) d_W_lay_326 k_W_deed s_W_124 rfl rfl (Nat.le_of_ble_eq_true rfl) (Nat.le_trans (Nat.le_of_ble_eq_true rfl : 12 + 1 ≤ 13) hD) (S_W_deed hfl (Nat.le_refl _) h64 a0 (J 7) ((J 1) + v65) (J 0) (J 0))) (fun v67 h66 => ?_)
    refine y_iadd (v := ((v61 + v63) + v67)) d_W_lay_329 rfl ?_
    refine y_iadd (v := (u57 + ((v61 + v63) + v67))) d_W_lay_330 rfl ?_
    refine y_istore_n (loc2 := [some (.ref a0), some (.ref (mwad Θ 40)), some (.int (u57 + ((v61 + v63) + v67))), none]) d_W_lay_331 (Nat.le_of_ble_eq_true rfl) rfl rfl ?_
    exact y_retU d_W_lay_332 rfl
  · refine y_iconst (v := (J 0)) d_W_lay_289 rfl ?_
    refine y_goto (tgt := 330) d_W_lay_290 (by decide) ?_
    refine y_iadd (v := (u57 + (J 0))) d_W_lay_330 rfl ?_
    refine y_istore_n (loc2 := [some (.ref a0), some (.ref (mwad Θ 40)), some (.int (u57 + (J 0))), none]) d_W_lay_331 (Nat.le_of_ble_eq_true rfl) rfl rfl ?_
    exact y_retU d_W_lay_332 rfl
noncomputable def P_W_ship (Θ : mW) (N : Nat) (h : mH) (a0 : Nat) (a1 : Int32) : Option ((Int32 ⊕ Nat) × mH) :=
  (gO Θ h 0 a0 (bc (P_F_shipCount Θ N h a0) (fun v2 h1 => (if v2 = 0 then (some (.inl (J (-1)), h1)) else (gO Θ h1 0 a0 (bc (P_F_shipCount Θ N h1 a0) (fun v4 h3 => (if v4 = 0 then none else (gO Θ h3 0 a0 (bx (P_F_shipAt Θ N h3 a0 (a1 - a1 / v4 * v4)) (fun v6 h5 => (some (.inl v6, h5))) (fun n9 h9 => xp n9 h9)))))))))))
theorem S_W_ship (hfl : HF l Θ) (hD : 7 ≤ d) (h : mH) (a0 : Nat) (a1 : Int32) : mMs l Θ d M_W_ship [.ref a0, .int a1] h (tX vI) (P_W_ship Θ N h a0 a1) := by
  refine mMs.of hfl (by decide +kernel) rfl (Nat.le_of_ble_eq_true rfl) (loc := [some (.ref a0), some (.int a1)]) rfl ?_
  unfold P_W_ship
  refine y_aload_n d_W_ship_0 rfl ?_
  refine y_gO (fun fs1 g1 => y_cI (c_vi (rest := []) d_W_ship_1 k_F_shipCount s_W_135 (Or.inl ⟨_, _, _, g1, rfl, rfl⟩) rfl rfl (Nat.le_of_ble_eq_true rfl) (Nat.le_trans (Nat.le_of_ble_eq_true rfl : 1 + 1 ≤ 7) hD) (S_F_shipCount hfl (Nat.le_refl _) h a0)) (fun v2 h1 => ?_))
  refine y_if_ne (tgt := 11) d_W_ship_4 (by decide) ?_ ?_
  · refine y_aload_n d_W_ship_11 rfl ?_
    refine y_iload_n d_W_ship_12 rfl ?_
    refine y_aload_n d_W_ship_13 rfl ?_
    refine y_gO (fun fs1 g1 => y_cI (c_vi (rest := [.int a1, .ref a0]) d_W_ship_14 k_F_shipCount s_W_135 (Or.inl ⟨_, _, _, g1, rfl, rfl⟩) rfl rfl (Nat.le_of_ble_eq_true rfl) (Nat.le_trans (Nat.le_of_ble_eq_true rfl : 1 + 1 ≤ 7) hD) (S_F_shipCount hfl (Nat.le_refl _) h1 a0)) (fun v4 h3 => ?_))
    refine y_gn (fun hn => y_irem (v := (a1 - a1 / v4 * v4)) d_W_ship_17 hn rfl ?_)
    refine y_gO (fun fs1 g1 => y_xI (c_vi (rest := []) d_W_ship_18 k_F_shipAt s_W_75 (Or.inl ⟨_, _, _, g1, rfl, rfl⟩) rfl rfl (Nat.le_of_ble_eq_true rfl) (Nat.le_trans (Nat.le_of_ble_eq_true rfl : 6 + 1 ≤ 7) hD) (S_F_shipAt hfl (Nat.le_refl _) h3 a0 (a1 - a1 / v4 * v4))) (fun v6 h5 => ?_) (fun _ _ => y_hp rfl))
    exact y_retIX d_W_ship_21 rfl rfl
  · refine y_iconst (v := (J (-1))) d_W_ship_7 rfl ?_
    refine y_goto (tgt := 21) d_W_ship_8 (by decide) ?_
    exact y_retIX d_W_ship_21 rfl rfl
noncomputable def P_W_any (Θ : mW) (N : Nat) (h : mH) (a0 : Nat) (a2 : Int32) : Option ((Int32 ⊕ Nat) × mH) :=
  (bc (P_W_pick Θ N h (a2 + (J 1)) (J 8)) (fun v2 h1 => (bx (P_W_ship Θ N h1 a0 v2) (fun v4 h3 => (bc (P_W_pick Θ N h3 (a2 + (J 2)) (J 60)) (fun v6 h5 => (bc (P_W_pick Θ N h5 a2 (J 24)) (fun v8 h7 => (if (v8).toInt < 0 ∨ 17 < (v8).toInt then (bc (P_W_pick Θ N h7 (a2 + (J 3)) (J 3)) (fun v10 h9 => (jn (fun (h12 : mH) (s13 : Int32) => (bc (P_W_pick Θ N h12 (a2 + (J 2)) s13) (fun v15 h14 => (bc (P_W_deed Θ N h14 a0 (J 7) ((J 1) + v15) (J 0) (J 0)) (fun v17 h16 => (some (.inl v17, h16))))))) (fun j11 => (if v10 = 0 then (j11 h9 (J 24)) else (j11 h9 (J 3))))))) else if v8 = J 0 then (bc (P_W_pick Θ N h7 (a2 + (J 2)) (J 26)) (fun v19 h18 => (bc (P_W_pick Θ N h18 (a2 + (J 3)) (J 76)) (fun v21 h20 => (bc (P_W_pick Θ N h20 (a2 + (J 4)) (J 100)) (fun v23 h22 => (bc (P_W_deed Θ N h22 a0 (J 0) ((J 5) + v19) ((J 5) + v21) v23) (fun v25 h24 => (some (.inl v25, h24)))))))))) else if v8 = J 1 then (bc (P_W_deed Θ N h7 a0 (J 1) v4 (J 0) (J 0)) (fun v27 h26 => (some (.inl v27, h26)))) else if v8 = J 2 then (bc (P_W_deed Θ N h7 a0 (J 2) v4 v6 (J 0)) (fun v29 h28 => (some (.inl v29, h28)))) else if v8 = J 3 then (bc (P_W_deed Θ N h7 a0 (J 2) v4 v6 (J 0)) (fun v31 h30 => (some (.inl v31, h30)))) else if v8 = J 4 then (bc (P_W_deed Θ N h7 a0 (J 2) v4 v6 (J 0)) (fun v33 h32 => (some (.inl v33, h32)))) else if v8 = J 5 then (bc (P_W_deed Θ N h7 a0 (J 3) v4 (J 0) (J 0)) (fun v35 h34 => (some (.inl v35, h34)))) else if v8 = J 6 then (bc (P_W_deed Θ N h7 a0 (J 3) v4 (J 0) (J 0)) (fun v37 h36 => (some (.inl v37, h36)))) else if v8 = J 7 then (bc (P_W_pick Θ N h7 (a2 + (J 2)) (J 4)) (fun v39 h38 => (jn (fun (h41 : mH) (s42 : Int32) => (bc (P_W_deed Θ N h41 a0 (J 4) v4 s42 (J 0)) (fun v44 h43 => (some (.inl v44, h43))))) (fun j40 => (if v39 = 0 then (j40 h38 (J 0)) else (j40 h38 (J 1))))))) else if v8 = J 8 then (bc (P_W_pick Θ N h7 (a2 + (J 2)) (J 4)) (fun v46 h45 => (jn (fun (h48 : mH) (s49 : Int32) => (bc (P_W_deed Θ N h48 a0 (J 4) v4 s49 (J 0)) (fun v51 h50 => (some (.inl v51, h50))))) (fun j47 => (if v46 = 0 then (j47 h45 (J 0)) else (j47 h45 (J 1))))))) else if v8 = J 9 then (bc (P_W_pick Θ N h7 (a2 + (J 2)) (J 2)) (fun v53 h52 => (bc (P_W_deed Θ N h52 a0 (J 5) v53 (J 0) (J 0)) (fun v55 h54 => (some (.inl v55, h54)))))) else if v8 = J 10 then (bc (P_W_pick Θ N h7 (a2 + (J 2)) (J 2)) (fun v57 h56 => (bc (P_W_deed Θ N h56 a0 (J 5) v57 (J 0) (J 0)) (fun v59 h58 => (some (.inl v59, h58)))))) else if v8 = J 11 then (bc (P_W_pick Θ N h7 (a2 + (J 2)) (J 61)) (fun v61 h60 => (bc (P_W_deed Θ N h60 a0 (J 6) (v61 - (J 30)) (J 0) (J 0)) (fun v63 h62 => (some (.inl v63, h62)))))) else if v8 = J 12 then (bc (P_W_pick Θ N h7 (a2 + (J 2)) (J 61)) (fun v65 h64 => (bc (P_W_deed Θ N h64 a0 (J 6) (v65 - (J 30)) (J 0) (J 0)) (fun v67 h66 => (some (.inl v67, h66)))))) else if v8 = J 13 then (bc (P_W_deed Θ N h7 a0 (J 8) v6 (J 0) (J 0)) (fun v69 h68 => (some (.inl v69, h68)))) else if v8 = J 14 then (bc (P_W_deed Θ N h7 a0 (J 8) v6 (J 0) (J 0)) (fun v71 h70 => (some (.inl v71, h70)))) else if v8 = J 15 then (bc (P_W_deed Θ N h7 a0 (J 9) v6 (J 0) (J 0)) (fun v73 h72 => (some (.inl v73, h72)))) else if v8 = J 16 then (jn (fun (h75 : mH) (s76 : Int32) => (bc (P_W_pick Θ N h75 (a2 + (J 2)) s76) (fun v78 h77 => (bc (P_W_deed Θ N h77 a0 (J 10) v4 ((J 1) + v78) (J 0)) (fun v80 h79 => (some (.inl v80, h79))))))) (fun j74 => (if 0 ≤ v4 then (gO Θ h7 0 a0 (bx (P_F_billOf Θ N h7 a0 v4) (fun v82 h81 => (j74 h81 (mxI (J 1) v82))) (fun n9 h9 => xp n9 h9))) else (j74 h7 (J 1))))) else if v8 = J 17 then (jn (fun (h84 : mH) (s85 : Int32) => (bc (P_W_pick Θ N h84 (a2 + (J 2)) s85) (fun v87 h86 => (bc (P_W_deed Θ N h86 a0 (J 10) v4 ((J 1) + v87) (J 0)) (fun v89 h88 => (some (.inl v89, h88))))))) (fun j83 => (if 0 ≤ v4 then (gO Θ h7 0 a0 (bx (P_F_billOf Θ N h7 a0 v4) (fun v91 h90 => (j83 h90 (mxI (J 1) v91))) (fun n9 h9 => xp n9 h9))) else (j83 h7 (J 1))))) else none)))))) (fun n9 h9 => xp n9 h9))))
theorem S_W_any (hfl : HF l Θ) (hD : 13 ≤ d) (h : mH) (a0 : Nat) (a2 : Int32) : mMs l Θ d M_W_any [.ref a0, .ref (mwad Θ 40), .int a2] h (tX vI) (P_W_any Θ N h a0 a2) := by
  refine mMs.of hfl (by decide +kernel) rfl (Nat.le_of_ble_eq_true rfl) (loc := [some (.ref a0), some (.ref (mwad Θ 40)), some (.int a2), none, none]) rfl ?_
  unfold P_W_any
  refine y_aload_n d_W_any_0 rfl ?_
  refine y_aload_n d_W_any_1 rfl ?_
  refine y_iload_n d_W_any_2 rfl ?_
  refine y_iconst (v := (J 1)) d_W_any_3 rfl ?_
  refine y_iadd (v := (a2 + (J 1))) d_W_any_4 rfl ?_
  refine y_bipush (v := (J 8)) d_W_any_5 (by decide +kernel) ?_
  refine y_cI (c_st (rest := [.ref a0]) d_W_any_7 k_W_pick s_W_127 rfl rfl (Nat.le_of_ble_eq_true rfl) (Nat.le_trans (Nat.le_of_ble_eq_true rfl : 2 + 1 ≤ 13) hD) (S_W_pick hfl (Nat.le_refl _) h (a2 + (J 1)) (J 8))) (fun v2 h1 => ?_)
  refine y_xI (c_st (rest := []) d_W_any_10 k_W_ship s_W_138 rfl rfl (Nat.le_of_ble_eq_true rfl) (Nat.le_trans (Nat.le_of_ble_eq_true rfl : 7 + 1 ≤ 13) hD) (S_W_ship hfl (Nat.le_refl _) h1 a0 v2)) (fun v4 h3 => ?_) (fun _ _ => y_hp rfl)
  refine y_istore_n (loc2 := [some (.ref a0), some (.ref (mwad Θ 40)), some (.int a2), some (.int v4), none]) d_W_any_13 (Nat.le_of_ble_eq_true rfl) rfl rfl ?_
  refine y_aload_n d_W_any_14 rfl ?_
  refine y_iload_n d_W_any_15 rfl ?_
  refine y_iconst (v := (J 2)) d_W_any_16 rfl ?_
  refine y_iadd (v := (a2 + (J 2))) d_W_any_17 rfl ?_
  refine y_bipush (v := (J 60)) d_W_any_18 (by decide +kernel) ?_
  refine y_cI (c_st (rest := []) d_W_any_20 k_W_pick s_W_127 rfl rfl (Nat.le_of_ble_eq_true rfl) (Nat.le_trans (Nat.le_of_ble_eq_true rfl : 2 + 1 ≤ 13) hD) (S_W_pick hfl (Nat.le_refl _) h3 (a2 + (J 2)) (J 60))) (fun v6 h5 => ?_)
  refine y_istore (loc2 := [some (.ref a0), some (.ref (mwad Θ 40)), some (.int a2), some (.int v4), some (.int v6)]) d_W_any_23 (Nat.le_of_ble_eq_true rfl) rfl rfl ?_
  refine y_aload_n d_W_any_25 rfl ?_
  refine y_iload_n d_W_any_26 rfl ?_
  refine y_bipush (v := (J 24)) d_W_any_27 (by decide +kernel) ?_
  refine y_cI (c_st (rest := []) d_W_any_29 k_W_pick s_W_127 rfl rfl (Nat.le_of_ble_eq_true rfl) (Nat.le_trans (Nat.le_of_ble_eq_true rfl : 2 + 1 ≤ 13) hD) (S_W_pick hfl (Nat.le_refl _) h5 a2 (J 24))) (fun v8 h7 => ?_)
  refine y_tabOut (tgt := 303) d_W_any_32 (by decide) ?_ (fun hn => ?_)
  · refine y_aload_n d_W_any_303 rfl ?_
    refine y_bipush (v := (J 7)) d_W_any_304 (by decide +kernel) ?_
    refine y_iconst (v := (J 1)) d_W_any_306 rfl ?_
    refine y_aload_n d_W_any_307 rfl ?_
    refine y_iload_n d_W_any_308 rfl ?_
    refine y_iconst (v := (J 2)) d_W_any_309 rfl ?_
    refine y_iadd (v := (a2 + (J 2))) d_W_any_310 rfl ?_
    refine y_aload_n d_W_any_311 rfl ?_
    refine y_iload_n d_W_any_312 rfl ?_
    refine y_iconst (v := (J 3)) d_W_any_313 rfl ?_
    refine y_iadd (v := (a2 + (J 3))) d_W_any_314 rfl ?_
    refine y_iconst (v := (J 3)) d_W_any_315 rfl ?_
    refine y_cI (c_st (rest := [.int (a2 + (J 2)), .ref (mwad Θ 40), .int (J 1), .int (J 7), .ref a0]) d_W_any_316 k_W_pick s_W_127 rfl rfl (Nat.le_of_ble_eq_true rfl) (Nat.le_trans (Nat.le_of_ble_eq_true rfl : 2 + 1 ≤ 13) hD) (S_W_pick hfl (Nat.le_refl _) h7 (a2 + (J 3)) (J 3))) (fun v10 h9 => ?_)
    refine y_jn (C := fun (j9 : mH → Int32 → Option ((Int32 ⊕ Nat) × mH)) => ∀ (h12 : mH) (s13 : Int32), mY l Θ d M_W_any 328 [none, none, none, none, none] [.int s13, .int (a2 + (J 2)), .ref (mwad Θ 40), .int (J 1), .int (J 7), .ref a0] h12 (tX vI) (j9 h12 s13)) (fun h12 s13 => ?_) (fun j11 Hj11 => ?_)
    · refine y_cI (c_st (rest := [.int (J 1), .int (J 7), .ref a0]) d_W_any_328 k_W_pick s_W_127 rfl rfl (Nat.le_of_ble_eq_true rfl) (Nat.le_trans (Nat.le_of_ble_eq_true rfl : 2 + 1 ≤ 13) hD) (S_W_pick hfl (Nat.le_refl _) h12 (a2 + (J 2)) s13)) (fun v15 h14 => ?_)
      refine y_iadd (v := ((J 1) + v15)) d_W_any_331 rfl ?_
      refine y_iconst (v := (J 0)) d_W_any_332 rfl ?_
      refine y_iconst (v := (J 0)) d_W_any_333 rfl ?_
      refine y_cI (c_st (rest := []) d_W_any_334 k_W_deed s_W_124 rfl rfl (Nat.le_of_ble_eq_true rfl) (Nat.le_trans (Nat.le_of_ble_eq_true rfl : 12 + 1 ≤ 13) hD) (S_W_deed hfl (Nat.le_refl _) h14 a0 (J 7) ((J 1) + v15) (J 0) (J 0))) (fun v17 h16 => ?_)
      exact y_retIX d_W_any_337 rfl rfl
    · refine y_if_ne (tgt := 327) d_W_any_319 (by decide) ?_ ?_
      · refine y_iconst (v := (J 3)) d_W_any_327 rfl ?_
        exact y_wk (loc2 := [none, none, none, none, none]) trivial (Hj11 h9 (J 3))
      · refine y_bipush (v := (J 24)) d_W_any_322 (by decide +kernel) ?_
        refine y_goto (tgt := 328) d_W_any_324 (by decide) ?_
        exact y_wk (loc2 := [none, none, none, none, none]) trivial (Hj11 h9 (J 24))
  refine y_tabIn (tgt := 120) d_W_any_32 hn (by decide +kernel) rfl (by decide) ?_ ?_
  · refine y_aload_n d_W_any_120 rfl ?_
    refine y_iconst (v := (J 0)) d_W_any_121 rfl ?_
    refine y_iconst (v := (J 5)) d_W_any_122 rfl ?_
    refine y_aload_n d_W_any_123 rfl ?_
    refine y_iload_n d_W_any_124 rfl ?_
    refine y_iconst (v := (J 2)) d_W_any_125 rfl ?_
    refine y_iadd (v := (a2 + (J 2))) d_W_any_126 rfl ?_
    refine y_bipush (v := (J 26)) d_W_any_127 (by decide +kernel) ?_
    refine y_cI (c_st (rest := [.int (J 5), .int (J 0), .ref a0]) d_W_any_129 k_W_pick s_W_127 rfl rfl (Nat.le_of_ble_eq_true rfl) (Nat.le_trans (Nat.le_of_ble_eq_true rfl : 2 + 1 ≤ 13) hD) (S_W_pick hfl (Nat.le_refl _) h7 (a2 + (J 2)) (J 26))) (fun v19 h18 => ?_)
    refine y_iadd (v := ((J 5) + v19)) d_W_any_132 rfl ?_
    refine y_iconst (v := (J 5)) d_W_any_133 rfl ?_
    refine y_aload_n d_W_any_134 rfl ?_
    refine y_iload_n d_W_any_135 rfl ?_
    refine y_iconst (v := (J 3)) d_W_any_136 rfl ?_
    refine y_iadd (v := (a2 + (J 3))) d_W_any_137 rfl ?_
    refine y_bipush (v := (J 76)) d_W_any_138 (by decide +kernel) ?_
    refine y_cI (c_st (rest := [.int (J 5), .int ((J 5) + v19), .int (J 0), .ref a0]) d_W_any_140 k_W_pick s_W_127 rfl rfl (Nat.le_of_ble_eq_true rfl) (Nat.le_trans (Nat.le_of_ble_eq_true rfl : 2 + 1 ≤ 13) hD) (S_W_pick hfl (Nat.le_refl _) h18 (a2 + (J 3)) (J 76))) (fun v21 h20 => ?_)
    refine y_iadd (v := ((J 5) + v21)) d_W_any_143 rfl ?_
    refine y_aload_n d_W_any_144 rfl ?_
    refine y_iload_n d_W_any_145 rfl ?_
    refine y_iconst (v := (J 4)) d_W_any_146 rfl ?_
    refine y_iadd (v := (a2 + (J 4))) d_W_any_147 rfl ?_
    refine y_bipush (v := (J 100)) d_W_any_148 (by decide +kernel) ?_
    refine y_cI (c_st (rest := [.int ((J 5) + v21), .int ((J 5) + v19), .int (J 0), .ref a0]) d_W_any_150 k_W_pick s_W_127 rfl rfl (Nat.le_of_ble_eq_true rfl) (Nat.le_trans (Nat.le_of_ble_eq_true rfl : 2 + 1 ≤ 13) hD) (S_W_pick hfl (Nat.le_refl _) h20 (a2 + (J 4)) (J 100))) (fun v23 h22 => ?_)
    refine y_cI (c_st (rest := []) d_W_any_153 k_W_deed s_W_124 rfl rfl (Nat.le_of_ble_eq_true rfl) (Nat.le_trans (Nat.le_of_ble_eq_true rfl : 12 + 1 ≤ 13) hD) (S_W_deed hfl (Nat.le_refl _) h22 a0 (J 0) ((J 5) + v19) ((J 5) + v21) v23)) (fun v25 h24 => ?_)
    exact y_retIX d_W_any_156 rfl rfl
  refine y_tabIn (tgt := 157) d_W_any_32 hn (by decide +kernel) rfl (by decide) ?_ ?_
  · refine y_aload_n d_W_any_157 rfl ?_
    refine y_iconst (v := (J 1)) d_W_any_158 rfl ?_
    refine y_iload_n d_W_any_159 rfl ?_
    refine y_iconst (v := (J 0)) d_W_any_160 rfl ?_
    refine y_iconst (v := (J 0)) d_W_any_161 rfl ?_
    refine y_cI (c_st (rest := []) d_W_any_162 k_W_deed s_W_124 rfl rfl (Nat.le_of_ble_eq_true rfl) (Nat.le_trans (Nat.le_of_ble_eq_true rfl : 12 + 1 ≤ 13) hD) (S_W_deed hfl (Nat.le_refl _) h7 a0 (J 1) v4 (J 0) (J 0))) (fun v27 h26 => ?_)
    exact y_retIX d_W_any_165 rfl rfl
  refine y_tabIn (tgt := 166) d_W_any_32 hn (by decide +kernel) rfl (by decide) ?_ ?_
  · refine y_aload_n d_W_any_166 rfl ?_
    refine y_iconst (v := (J 2)) d_W_any_167 rfl ?_
    refine y_iload_n d_W_any_168 rfl ?_
    refine y_iload d_W_any_169 rfl ?_
    refine y_iconst (v := (J 0)) d_W_any_171 rfl ?_
    refine y_cI (c_st (rest := []) d_W_any_172 k_W_deed s_W_124 rfl rfl (Nat.le_of_ble_eq_true rfl) (Nat.le_trans (Nat.le_of_ble_eq_true rfl : 12 + 1 ≤ 13) hD) (S_W_deed hfl (Nat.le_refl _) h7 a0 (J 2) v4 v6 (J 0))) (fun v29 h28 => ?_)
    exact y_retIX d_W_any_175 rfl rfl
  refine y_tabIn (tgt := 166) d_W_any_32 hn (by decide +kernel) rfl (by decide) ?_ ?_
  · refine y_aload_n d_W_any_166 rfl ?_
    refine y_iconst (v := (J 2)) d_W_any_167 rfl ?_
    refine y_iload_n d_W_any_168 rfl ?_
    refine y_iload d_W_any_169 rfl ?_
    refine y_iconst (v := (J 0)) d_W_any_171 rfl ?_
    refine y_cI (c_st (rest := []) d_W_any_172 k_W_deed s_W_124 rfl rfl (Nat.le_of_ble_eq_true rfl) (Nat.le_trans (Nat.le_of_ble_eq_true rfl : 12 + 1 ≤ 13) hD) (S_W_deed hfl (Nat.le_refl _) h7 a0 (J 2) v4 v6 (J 0))) (fun v31 h30 => ?_)
    exact y_retIX d_W_any_175 rfl rfl
  refine y_tabIn (tgt := 166) d_W_any_32 hn (by decide +kernel) rfl (by decide) ?_ ?_
  · refine y_aload_n d_W_any_166 rfl ?_
    refine y_iconst (v := (J 2)) d_W_any_167 rfl ?_
    refine y_iload_n d_W_any_168 rfl ?_
    refine y_iload d_W_any_169 rfl ?_
    refine y_iconst (v := (J 0)) d_W_any_171 rfl ?_
    refine y_cI (c_st (rest := []) d_W_any_172 k_W_deed s_W_124 rfl rfl (Nat.le_of_ble_eq_true rfl) (Nat.le_trans (Nat.le_of_ble_eq_true rfl : 12 + 1 ≤ 13) hD) (S_W_deed hfl (Nat.le_refl _) h7 a0 (J 2) v4 v6 (J 0))) (fun v33 h32 => ?_)
    exact y_retIX d_W_any_175 rfl rfl
  refine y_tabIn (tgt := 176) d_W_any_32 hn (by decide +kernel) rfl (by decide) ?_ ?_
  · refine y_aload_n d_W_any_176 rfl ?_
    refine y_iconst (v := (J 3)) d_W_any_177 rfl ?_
    refine y_iload_n d_W_any_178 rfl ?_
    refine y_iconst (v := (J 0)) d_W_any_179 rfl ?_
    refine y_iconst (v := (J 0)) d_W_any_180 rfl ?_
    refine y_cI (c_st (rest := []) d_W_any_181 k_W_deed s_W_124 rfl rfl (Nat.le_of_ble_eq_true rfl) (Nat.le_trans (Nat.le_of_ble_eq_true rfl : 12 + 1 ≤ 13) hD) (S_W_deed hfl (Nat.le_refl _) h7 a0 (J 3) v4 (J 0) (J 0))) (fun v35 h34 => ?_)
    exact y_retIX d_W_any_184 rfl rfl
  refine y_tabIn (tgt := 176) d_W_any_32 hn (by decide +kernel) rfl (by decide) ?_ ?_
  · refine y_aload_n d_W_any_176 rfl ?_
    refine y_iconst (v := (J 3)) d_W_any_177 rfl ?_
    refine y_iload_n d_W_any_178 rfl ?_
    refine y_iconst (v := (J 0)) d_W_any_179 rfl ?_
    refine y_iconst (v := (J 0)) d_W_any_180 rfl ?_
    refine y_cI (c_st (rest := []) d_W_any_181 k_W_deed s_W_124 rfl rfl (Nat.le_of_ble_eq_true rfl) (Nat.le_trans (Nat.le_of_ble_eq_true rfl : 12 + 1 ≤ 13) hD) (S_W_deed hfl (Nat.le_refl _) h7 a0 (J 3) v4 (J 0) (J 0))) (fun v37 h36 => ?_)
    exact y_retIX d_W_any_184 rfl rfl
  refine y_tabIn (tgt := 185) d_W_any_32 hn (by decide +kernel) rfl (by decide) ?_ ?_
  · refine y_aload_n d_W_any_185 rfl ?_
    refine y_iconst (v := (J 4)) d_W_any_186 rfl ?_
    refine y_iload_n d_W_any_187 rfl ?_
    refine y_aload_n d_W_any_188 rfl ?_
    refine y_iload_n d_W_any_189 rfl ?_
    refine y_iconst (v := (J 2)) d_W_any_190 rfl ?_
    refine y_iadd (v := (a2 + (J 2))) d_W_any_191 rfl ?_
    refine y_iconst (v := (J 4)) d_W_any_192 rfl ?_
    refine y_cI (c_st (rest := [.int v4, .int (J 4), .ref a0]) d_W_any_193 k_W_pick s_W_127 rfl rfl (Nat.le_of_ble_eq_true rfl) (Nat.le_trans (Nat.le_of_ble_eq_true rfl : 2 + 1 ≤ 13) hD) (S_W_pick hfl (Nat.le_refl _) h7 (a2 + (J 2)) (J 4))) (fun v39 h38 => ?_)
    refine y_jn (C := fun (j9 : mH → Int32 → Option ((Int32 ⊕ Nat) × mH)) => ∀ (h41 : mH) (s42 : Int32), mY l Θ d M_W_any 204 [none, none, none, none, none] [.int s42, .int v4, .int (J 4), .ref a0] h41 (tX vI) (j9 h41 s42)) (fun h41 s42 => ?_) (fun j40 Hj40 => ?_)
    · refine y_iconst (v := (J 0)) d_W_any_204 rfl ?_
      refine y_cI (c_st (rest := []) d_W_any_205 k_W_deed s_W_124 rfl rfl (Nat.le_of_ble_eq_true rfl) (Nat.le_trans (Nat.le_of_ble_eq_true rfl : 12 + 1 ≤ 13) hD) (S_W_deed hfl (Nat.le_refl _) h41 a0 (J 4) v4 s42 (J 0))) (fun v44 h43 => ?_)
      exact y_retIX d_W_any_208 rfl rfl
    · refine y_if_ne (tgt := 203) d_W_any_196 (by decide) ?_ ?_
      · refine y_iconst (v := (J 1)) d_W_any_203 rfl ?_
        exact y_wk (loc2 := [none, none, none, none, none]) trivial (Hj40 h38 (J 1))
      · refine y_iconst (v := (J 0)) d_W_any_199 rfl ?_
        refine y_goto (tgt := 204) d_W_any_200 (by decide) ?_
        exact y_wk (loc2 := [none, none, none, none, none]) trivial (Hj40 h38 (J 0))
  refine y_tabIn (tgt := 185) d_W_any_32 hn (by decide +kernel) rfl (by decide) ?_ ?_
  · refine y_aload_n d_W_any_185 rfl ?_
    refine y_iconst (v := (J 4)) d_W_any_186 rfl ?_
    refine y_iload_n d_W_any_187 rfl ?_
    refine y_aload_n d_W_any_188 rfl ?_
    refine y_iload_n d_W_any_189 rfl ?_
    refine y_iconst (v := (J 2)) d_W_any_190 rfl ?_
    refine y_iadd (v := (a2 + (J 2))) d_W_any_191 rfl ?_
    refine y_iconst (v := (J 4)) d_W_any_192 rfl ?_
    refine y_cI (c_st (rest := [.int v4, .int (J 4), .ref a0]) d_W_any_193 k_W_pick s_W_127 rfl rfl (Nat.le_of_ble_eq_true rfl) (Nat.le_trans (Nat.le_of_ble_eq_true rfl : 2 + 1 ≤ 13) hD) (S_W_pick hfl (Nat.le_refl _) h7 (a2 + (J 2)) (J 4))) (fun v46 h45 => ?_)
    refine y_jn (C := fun (j9 : mH → Int32 → Option ((Int32 ⊕ Nat) × mH)) => ∀ (h48 : mH) (s49 : Int32), mY l Θ d M_W_any 204 [none, none, none, none, none] [.int s49, .int v4, .int (J 4), .ref a0] h48 (tX vI) (j9 h48 s49)) (fun h48 s49 => ?_) (fun j47 Hj47 => ?_)
    · refine y_iconst (v := (J 0)) d_W_any_204 rfl ?_
      refine y_cI (c_st (rest := []) d_W_any_205 k_W_deed s_W_124 rfl rfl (Nat.le_of_ble_eq_true rfl) (Nat.le_trans (Nat.le_of_ble_eq_true rfl : 12 + 1 ≤ 13) hD) (S_W_deed hfl (Nat.le_refl _) h48 a0 (J 4) v4 s49 (J 0))) (fun v51 h50 => ?_)
      exact y_retIX d_W_any_208 rfl rfl
    · refine y_if_ne (tgt := 203) d_W_any_196 (by decide) ?_ ?_
      · refine y_iconst (v := (J 1)) d_W_any_203 rfl ?_
        exact y_wk (loc2 := [none, none, none, none, none]) trivial (Hj47 h45 (J 1))
      · refine y_iconst (v := (J 0)) d_W_any_199 rfl ?_
        refine y_goto (tgt := 204) d_W_any_200 (by decide) ?_
        exact y_wk (loc2 := [none, none, none, none, none]) trivial (Hj47 h45 (J 0))
  refine y_tabIn (tgt := 209) d_W_any_32 hn (by decide +kernel) rfl (by decide) ?_ ?_
  · refine y_aload_n d_W_any_209 rfl ?_
    refine y_iconst (v := (J 5)) d_W_any_210 rfl ?_
    refine y_aload_n d_W_any_211 rfl ?_
    refine y_iload_n d_W_any_212 rfl ?_
    refine y_iconst (v := (J 2)) d_W_any_213 rfl ?_
    refine y_iadd (v := (a2 + (J 2))) d_W_any_214 rfl ?_
    refine y_iconst (v := (J 2)) d_W_any_215 rfl ?_
    refine y_cI (c_st (rest := [.int (J 5), .ref a0]) d_W_any_216 k_W_pick s_W_127 rfl rfl (Nat.le_of_ble_eq_true rfl) (Nat.le_trans (Nat.le_of_ble_eq_true rfl : 2 + 1 ≤ 13) hD) (S_W_pick hfl (Nat.le_refl _) h7 (a2 + (J 2)) (J 2))) (fun v53 h52 => ?_)
    refine y_iconst (v := (J 0)) d_W_any_219 rfl ?_
    refine y_iconst (v := (J 0)) d_W_any_220 rfl ?_
    refine y_cI (c_st (rest := []) d_W_any_221 k_W_deed s_W_124 rfl rfl (Nat.le_of_ble_eq_true rfl) (Nat.le_trans (Nat.le_of_ble_eq_true rfl : 12 + 1 ≤ 13) hD) (S_W_deed hfl (Nat.le_refl _) h52 a0 (J 5) v53 (J 0) (J 0))) (fun v55 h54 => ?_)
    exact y_retIX d_W_any_224 rfl rfl
  refine y_tabIn (tgt := 209) d_W_any_32 hn (by decide +kernel) rfl (by decide) ?_ ?_
  · refine y_aload_n d_W_any_209 rfl ?_
    refine y_iconst (v := (J 5)) d_W_any_210 rfl ?_
    refine y_aload_n d_W_any_211 rfl ?_
    refine y_iload_n d_W_any_212 rfl ?_
    refine y_iconst (v := (J 2)) d_W_any_213 rfl ?_
    refine y_iadd (v := (a2 + (J 2))) d_W_any_214 rfl ?_
    refine y_iconst (v := (J 2)) d_W_any_215 rfl ?_
    refine y_cI (c_st (rest := [.int (J 5), .ref a0]) d_W_any_216 k_W_pick s_W_127 rfl rfl (Nat.le_of_ble_eq_true rfl) (Nat.le_trans (Nat.le_of_ble_eq_true rfl : 2 + 1 ≤ 13) hD) (S_W_pick hfl (Nat.le_refl _) h7 (a2 + (J 2)) (J 2))) (fun v57 h56 => ?_)
    refine y_iconst (v := (J 0)) d_W_any_219 rfl ?_
    refine y_iconst (v := (J 0)) d_W_any_220 rfl ?_
    refine y_cI (c_st (rest := []) d_W_any_221 k_W_deed s_W_124 rfl rfl (Nat.le_of_ble_eq_true rfl) (Nat.le_trans (Nat.le_of_ble_eq_true rfl : 12 + 1 ≤ 13) hD) (S_W_deed hfl (Nat.le_refl _) h56 a0 (J 5) v57 (J 0) (J 0))) (fun v59 h58 => ?_)
    exact y_retIX d_W_any_224 rfl rfl
  refine y_tabIn (tgt := 225) d_W_any_32 hn (by decide +kernel) rfl (by decide) ?_ ?_
  · refine y_aload_n d_W_any_225 rfl ?_
    refine y_bipush (v := (J 6)) d_W_any_226 (by decide +kernel) ?_
    refine y_aload_n d_W_any_228 rfl ?_
    refine y_iload_n d_W_any_229 rfl ?_
    refine y_iconst (v := (J 2)) d_W_any_230 rfl ?_
    refine y_iadd (v := (a2 + (J 2))) d_W_any_231 rfl ?_
    refine y_bipush (v := (J 61)) d_W_any_232 (by decide +kernel) ?_
    refine y_cI (c_st (rest := [.int (J 6), .ref a0]) d_W_any_234 k_W_pick s_W_127 rfl rfl (Nat.le_of_ble_eq_true rfl) (Nat.le_trans (Nat.le_of_ble_eq_true rfl : 2 + 1 ≤ 13) hD) (S_W_pick hfl (Nat.le_refl _) h7 (a2 + (J 2)) (J 61))) (fun v61 h60 => ?_)
    refine y_bipush (v := (J 30)) d_W_any_237 (by decide +kernel) ?_
    refine y_isub (v := (v61 - (J 30))) d_W_any_239 rfl ?_
    refine y_iconst (v := (J 0)) d_W_any_240 rfl ?_
    refine y_iconst (v := (J 0)) d_W_any_241 rfl ?_
    refine y_cI (c_st (rest := []) d_W_any_242 k_W_deed s_W_124 rfl rfl (Nat.le_of_ble_eq_true rfl) (Nat.le_trans (Nat.le_of_ble_eq_true rfl : 12 + 1 ≤ 13) hD) (S_W_deed hfl (Nat.le_refl _) h60 a0 (J 6) (v61 - (J 30)) (J 0) (J 0))) (fun v63 h62 => ?_)
    exact y_retIX d_W_any_245 rfl rfl
  refine y_tabIn (tgt := 225) d_W_any_32 hn (by decide +kernel) rfl (by decide) ?_ ?_
  · refine y_aload_n d_W_any_225 rfl ?_
    refine y_bipush (v := (J 6)) d_W_any_226 (by decide +kernel) ?_
    refine y_aload_n d_W_any_228 rfl ?_
    refine y_iload_n d_W_any_229 rfl ?_
    refine y_iconst (v := (J 2)) d_W_any_230 rfl ?_
    refine y_iadd (v := (a2 + (J 2))) d_W_any_231 rfl ?_
    refine y_bipush (v := (J 61)) d_W_any_232 (by decide +kernel) ?_
    refine y_cI (c_st (rest := [.int (J 6), .ref a0]) d_W_any_234 k_W_pick s_W_127 rfl rfl (Nat.le_of_ble_eq_true rfl) (Nat.le_trans (Nat.le_of_ble_eq_true rfl : 2 + 1 ≤ 13) hD) (S_W_pick hfl (Nat.le_refl _) h7 (a2 + (J 2)) (J 61))) (fun v65 h64 => ?_)
    refine y_bipush (v := (J 30)) d_W_any_237 (by decide +kernel) ?_
    refine y_isub (v := (v65 - (J 30))) d_W_any_239 rfl ?_
    refine y_iconst (v := (J 0)) d_W_any_240 rfl ?_
    refine y_iconst (v := (J 0)) d_W_any_241 rfl ?_
    refine y_cI (c_st (rest := []) d_W_any_242 k_W_deed s_W_124 rfl rfl (Nat.le_of_ble_eq_true rfl) (Nat.le_trans (Nat.le_of_ble_eq_true rfl : 12 + 1 ≤ 13) hD) (S_W_deed hfl (Nat.le_refl _) h64 a0 (J 6) (v65 - (J 30)) (J 0) (J 0))) (fun v67 h66 => ?_)
    exact y_retIX d_W_any_245 rfl rfl
  refine y_tabIn (tgt := 246) d_W_any_32 hn (by decide +kernel) rfl (by decide) ?_ ?_
  · refine y_aload_n d_W_any_246 rfl ?_
    refine y_bipush (v := (J 8)) d_W_any_247 (by decide +kernel) ?_
    refine y_iload d_W_any_249 rfl ?_
    refine y_iconst (v := (J 0)) d_W_any_251 rfl ?_
    refine y_iconst (v := (J 0)) d_W_any_252 rfl ?_
    refine y_cI (c_st (rest := []) d_W_any_253 k_W_deed s_W_124 rfl rfl (Nat.le_of_ble_eq_true rfl) (Nat.le_trans (Nat.le_of_ble_eq_true rfl : 12 + 1 ≤ 13) hD) (S_W_deed hfl (Nat.le_refl _) h7 a0 (J 8) v6 (J 0) (J 0))) (fun v69 h68 => ?_)
    exact y_retIX d_W_any_256 rfl rfl
  refine y_tabIn (tgt := 246) d_W_any_32 hn (by decide +kernel) rfl (by decide) ?_ ?_
  · refine y_aload_n d_W_any_246 rfl ?_
    refine y_bipush (v := (J 8)) d_W_any_247 (by decide +kernel) ?_
    refine y_iload d_W_any_249 rfl ?_
    refine y_iconst (v := (J 0)) d_W_any_251 rfl ?_
    refine y_iconst (v := (J 0)) d_W_any_252 rfl ?_
    refine y_cI (c_st (rest := []) d_W_any_253 k_W_deed s_W_124 rfl rfl (Nat.le_of_ble_eq_true rfl) (Nat.le_trans (Nat.le_of_ble_eq_true rfl : 12 + 1 ≤ 13) hD) (S_W_deed hfl (Nat.le_refl _) h7 a0 (J 8) v6 (J 0) (J 0))) (fun v71 h70 => ?_)
    exact y_retIX d_W_any_256 rfl rfl
  refine y_tabIn (tgt := 257) d_W_any_32 hn (by decide +kernel) rfl (by decide) ?_ ?_
  · refine y_aload_n d_W_any_257 rfl ?_
    refine y_bipush (v := (J 9)) d_W_any_258 (by decide +kernel) ?_
    refine y_iload d_W_any_260 rfl ?_
    refine y_iconst (v := (J 0)) d_W_any_262 rfl ?_
    refine y_iconst (v := (J 0)) d_W_any_263 rfl ?_
    refine y_cI (c_st (rest := []) d_W_any_264 k_W_deed s_W_124 rfl rfl (Nat.le_of_ble_eq_true rfl) (Nat.le_trans (Nat.le_of_ble_eq_true rfl : 12 + 1 ≤ 13) hD) (S_W_deed hfl (Nat.le_refl _) h7 a0 (J 9) v6 (J 0) (J 0))) (fun v73 h72 => ?_)
    exact y_retIX d_W_any_267 rfl rfl
  refine y_tabIn (tgt := 268) d_W_any_32 hn (by decide +kernel) rfl (by decide) ?_ ?_
  · refine y_aload_n d_W_any_268 rfl ?_
    refine y_bipush (v := (J 10)) d_W_any_269 (by decide +kernel) ?_
    refine y_iload_n d_W_any_271 rfl ?_
    refine y_iconst (v := (J 1)) d_W_any_272 rfl ?_
    refine y_aload_n d_W_any_273 rfl ?_
    refine y_iload_n d_W_any_274 rfl ?_
    refine y_iconst (v := (J 2)) d_W_any_275 rfl ?_
    refine y_iadd (v := (a2 + (J 2))) d_W_any_276 rfl ?_
    refine y_iload_n d_W_any_277 rfl ?_
    refine y_jn (C := fun (j9 : mH → Int32 → Option ((Int32 ⊕ Nat) × mH)) => ∀ (h75 : mH) (s76 : Int32), mY l Θ d M_W_any 294 [none, none, none, none, none] [.int s76, .int (a2 + (J 2)), .ref (mwad Θ 40), .int (J 1), .int v4, .int (J 10), .ref a0] h75 (tX vI) (j9 h75 s76)) (fun h75 s76 => ?_) (fun j74 Hj74 => ?_)
    · refine y_cI (c_st (rest := [.int (J 1), .int v4, .int (J 10), .ref a0]) d_W_any_294 k_W_pick s_W_127 rfl rfl (Nat.le_of_ble_eq_true rfl) (Nat.le_trans (Nat.le_of_ble_eq_true rfl : 2 + 1 ≤ 13) hD) (S_W_pick hfl (Nat.le_refl _) h75 (a2 + (J 2)) s76)) (fun v78 h77 => ?_)
      refine y_iadd (v := ((J 1) + v78)) d_W_any_297 rfl ?_
      refine y_iconst (v := (J 0)) d_W_any_298 rfl ?_
      refine y_cI (c_st (rest := []) d_W_any_299 k_W_deed s_W_124 rfl rfl (Nat.le_of_ble_eq_true rfl) (Nat.le_trans (Nat.le_of_ble_eq_true rfl : 12 + 1 ≤ 13) hD) (S_W_deed hfl (Nat.le_refl _) h77 a0 (J 10) v4 ((J 1) + v78) (J 0))) (fun v80 h79 => ?_)
      exact y_retIX d_W_any_302 rfl rfl
    · refine y_if_ge (tgt := 285) d_W_any_278 (by decide) ?_ ?_
      · refine y_iconst (v := (J 1)) d_W_any_285 rfl ?_
        refine y_aload_n d_W_any_286 rfl ?_
        refine y_iload_n d_W_any_287 rfl ?_
        refine y_gO (fun fs1 g1 => y_xI (c_vi (rest := [.int (J 1), .int (a2 + (J 2)), .ref (mwad Θ 40), .int (J 1), .int v4, .int (J 10), .ref a0]) d_W_any_288 k_F_billOf s_W_142 (Or.inl ⟨_, _, _, g1, rfl, rfl⟩) rfl rfl (Nat.le_of_ble_eq_true rfl) (Nat.le_trans (Nat.le_of_ble_eq_true rfl : 7 + 1 ≤ 13) hD) (S_F_billOf hfl (Nat.le_refl _) h7 a0 v4)) (fun v82 h81 => ?_) (fun _ _ => y_hp rfl))
        refine y_mmax d_W_any_291 s_W_145.1 s_W_145.2 k_MA_max.2.2.2.2.2 (mG (3, 185) (by decide +kernel)) (Nat.le_of_ble_eq_true rfl) (Nat.le_trans (Nat.le_of_ble_eq_true rfl) hD) ?_
        exact y_wk (loc2 := [none, none, none, none, none]) trivial (Hj74 h81 (mxI (J 1) v82))
      · refine y_iconst (v := (J 1)) d_W_any_281 rfl ?_
        refine y_goto (tgt := 294) d_W_any_282 (by decide) ?_
        exact y_wk (loc2 := [none, none, none, none, none]) trivial (Hj74 h7 (J 1))
  refine y_tabIn (tgt := 268) d_W_any_32 hn (by decide +kernel) rfl (by decide) ?_ ?_
  · refine y_aload_n d_W_any_268 rfl ?_
    refine y_bipush (v := (J 10)) d_W_any_269 (by decide +kernel) ?_
    refine y_iload_n d_W_any_271 rfl ?_
    refine y_iconst (v := (J 1)) d_W_any_272 rfl ?_
    refine y_aload_n d_W_any_273 rfl ?_
    refine y_iload_n d_W_any_274 rfl ?_
    refine y_iconst (v := (J 2)) d_W_any_275 rfl ?_
    refine y_iadd (v := (a2 + (J 2))) d_W_any_276 rfl ?_
    refine y_iload_n d_W_any_277 rfl ?_
    refine y_jn (C := fun (j9 : mH → Int32 → Option ((Int32 ⊕ Nat) × mH)) => ∀ (h84 : mH) (s85 : Int32), mY l Θ d M_W_any 294 [none, none, none, none, none] [.int s85, .int (a2 + (J 2)), .ref (mwad Θ 40), .int (J 1), .int v4, .int (J 10), .ref a0] h84 (tX vI) (j9 h84 s85)) (fun h84 s85 => ?_) (fun j83 Hj83 => ?_)
    · refine y_cI (c_st (rest := [.int (J 1), .int v4, .int (J 10), .ref a0]) d_W_any_294 k_W_pick s_W_127 rfl rfl (Nat.le_of_ble_eq_true rfl) (Nat.le_trans (Nat.le_of_ble_eq_true rfl : 2 + 1 ≤ 13) hD) (S_W_pick hfl (Nat.le_refl _) h84 (a2 + (J 2)) s85)) (fun v87 h86 => ?_)
      refine y_iadd (v := ((J 1) + v87)) d_W_any_297 rfl ?_
      refine y_iconst (v := (J 0)) d_W_any_298 rfl ?_
      refine y_cI (c_st (rest := []) d_W_any_299 k_W_deed s_W_124 rfl rfl (Nat.le_of_ble_eq_true rfl) (Nat.le_trans (Nat.le_of_ble_eq_true rfl : 12 + 1 ≤ 13) hD) (S_W_deed hfl (Nat.le_refl _) h86 a0 (J 10) v4 ((J 1) + v87) (J 0))) (fun v89 h88 => ?_)
      exact y_retIX d_W_any_302 rfl rfl
    · refine y_if_ge (tgt := 285) d_W_any_278 (by decide) ?_ ?_
      · refine y_iconst (v := (J 1)) d_W_any_285 rfl ?_
        refine y_aload_n d_W_any_286 rfl ?_
        refine y_iload_n d_W_any_287 rfl ?_
        refine y_gO (fun fs1 g1 => y_xI (c_vi (rest := [.int (J 1), .int (a2 + (J 2)), .ref (mwad Θ 40), .int (J 1), .int v4, .int (J 10), .ref a0]) d_W_any_288 k_F_billOf s_W_142 (Or.inl ⟨_, _, _, g1, rfl, rfl⟩) rfl rfl (Nat.le_of_ble_eq_true rfl) (Nat.le_trans (Nat.le_of_ble_eq_true rfl : 7 + 1 ≤ 13) hD) (S_F_billOf hfl (Nat.le_refl _) h7 a0 v4)) (fun v91 h90 => ?_) (fun _ _ => y_hp rfl))
        refine y_mmax d_W_any_291 s_W_145.1 s_W_145.2 k_MA_max.2.2.2.2.2 (mG (3, 185) (by decide +kernel)) (Nat.le_of_ble_eq_true rfl) (Nat.le_trans (Nat.le_of_ble_eq_true rfl) hD) ?_
        exact y_wk (loc2 := [none, none, none, none, none]) trivial (Hj83 h90 (mxI (J 1) v91))
      · refine y_iconst (v := (J 1)) d_W_any_281 rfl ?_
        refine y_goto (tgt := 294) d_W_any_282 (by decide) ?_
        exact y_wk (loc2 := [none, none, none, none, none]) trivial (Hj83 h7 (J 1))
  exact y_none
noncomputable def P_W_asked (Θ : mW) (N : Nat) (h : mH) (a0 : Nat) (a1 : Int32) (a2 : Int32) : Option ((Int32 ⊕ Nat) × mH) :=
  (if (a1).toInt < 0 ∨ 12 < (a1).toInt then (gO Θ h 0 a0 (bx (P_F_dirtOf Θ N h a0 a2) (fun v2 h1 => (some (.inl v2, h1))) (fun n9 h9 => xp n9 h9))) else if a1 = J 0 then (gO Θ h 0 a0 (bx (P_F_shipAt Θ N h a0 a2) (fun v4 h3 => (some (.inl v4, h3))) (fun n9 h9 => xp n9 h9))) else if a1 = J 1 then (gO Θ h 0 a0 (bx (P_F_positionOf Θ N h a0 a2) (fun v6 h5 => (some (.inl v6, h5))) (fun n9 h9 => xp n9 h9))) else if a1 = J 2 then none else if a1 = J 3 then (gO Θ h 0 a0 (bx (P_F_seaLevel Θ N h a0 a2) (fun v8 h7 => (some (.inl v8, h7))) (fun n9 h9 => xp n9 h9))) else if a1 = J 4 then (gO Θ h 0 a0 (bx (P_F_levelAfter Θ N h a0 a2) (fun v10 h9 => (some (.inl v10, h9))) (fun n9 h9 => xp n9 h9))) else if a1 = J 5 then (gO Θ h 0 a0 (bx (P_F_hoursUntilAfloat Θ N h a0 a2) (fun v12 h11 => (some (.inl v12, h11))) (fun n9 h9 => xp n9 h9))) else if a1 = J 6 then (gO Θ h 0 a0 (bx (P_F_hasBlock Θ N h a0 a2) (fun v14 h13 => (bc (P_W_told Θ N h13 v14) (fun v16 h15 => (some (.inl v16, h15))))) (fun n9 h9 => xp n9 h9))) else if a1 = J 7 then (gO Θ h 0 a0 (bx (P_F_shipAtPosition Θ N h a0 a2) (fun v18 h17 => (some (.inl v18, h17))) (fun n9 h9 => xp n9 h9))) else if a1 = J 8 then (gO Θ h 0 a0 (bx (P_F_firstGap Θ N h a0 a2) (fun v20 h19 => (some (.inl v20, h19))) (fun n9 h9 => xp n9 h9))) else if a1 = J 9 then (gO Θ h 0 a0 (bx (P_F_firstGapByShips Θ N h a0 a2) (fun v22 h21 => (some (.inl v22, h21))) (fun n9 h9 => xp n9 h9))) else if a1 = J 10 then (gO Θ h 0 a0 (bx (P_F_shipAtRank Θ N h a0 a2) (fun v24 h23 => (some (.inl v24, h23))) (fun n9 h9 => xp n9 h9))) else if a1 = J 11 then none else if a1 = J 12 then none else none)
theorem S_W_asked (hfl : HF l Θ) (hD : 9 ≤ d) (h : mH) (a0 : Nat) (a1 : Int32) (a2 : Int32) : mMs l Θ d M_W_asked [.ref a0, .int a1, .int a2] h (tX vI) (P_W_asked Θ N h a0 a1 a2) := by
  refine mMs.of hfl (by decide +kernel) rfl (Nat.le_of_ble_eq_true rfl) (loc := [some (.ref a0), some (.int a1), some (.int a2)]) rfl ?_
  unfold P_W_asked
  refine y_iload_n d_W_asked_0 rfl ?_
  refine y_tabOut (tgt := 146) d_W_asked_1 (by decide) ?_ (fun hn => ?_)
  · refine y_aload_n d_W_asked_146 rfl ?_
    refine y_iload_n d_W_asked_147 rfl ?_
    refine y_gO (fun fs1 g1 => y_xI (c_vi (rest := []) d_W_asked_148 k_F_dirtOf s_W_115 (Or.inl ⟨_, _, _, g1, rfl, rfl⟩) rfl rfl (Nat.le_of_ble_eq_true rfl) (Nat.le_trans (Nat.le_of_ble_eq_true rfl : 7 + 1 ≤ 9) hD) (S_F_dirtOf hfl (Nat.le_refl _) h a0 a2)) (fun v2 h1 => ?_) (fun _ _ => y_hp rfl))
    exact y_retIX d_W_asked_151 rfl rfl
  refine y_tabIn (tgt := 68) d_W_asked_1 hn (by decide +kernel) rfl (by decide) ?_ ?_
  · refine y_aload_n d_W_asked_68 rfl ?_
    refine y_iload_n d_W_asked_69 rfl ?_
    refine y_gO (fun fs1 g1 => y_xI (c_vi (rest := []) d_W_asked_70 k_F_shipAt s_W_75 (Or.inl ⟨_, _, _, g1, rfl, rfl⟩) rfl rfl (Nat.le_of_ble_eq_true rfl) (Nat.le_trans (Nat.le_of_ble_eq_true rfl : 6 + 1 ≤ 9) hD) (S_F_shipAt hfl (Nat.le_refl _) h a0 a2)) (fun v4 h3 => ?_) (fun _ _ => y_hp rfl))
    exact y_retIX d_W_asked_73 rfl rfl
  refine y_tabIn (tgt := 74) d_W_asked_1 hn (by decide +kernel) rfl (by decide) ?_ ?_
  · refine y_aload_n d_W_asked_74 rfl ?_
    refine y_iload_n d_W_asked_75 rfl ?_
    refine y_gO (fun fs1 g1 => y_xI (c_vi (rest := []) d_W_asked_76 k_F_positionOf s_W_78 (Or.inl ⟨_, _, _, g1, rfl, rfl⟩) rfl rfl (Nat.le_of_ble_eq_true rfl) (Nat.le_trans (Nat.le_of_ble_eq_true rfl : 8 + 1 ≤ 9) hD) (S_F_positionOf hfl (Nat.le_refl _) h a0 a2)) (fun v6 h5 => ?_) (fun _ _ => y_hp rfl))
    exact y_retIX d_W_asked_79 rfl rfl
  refine y_tabIn (tgt := 80) d_W_asked_1 hn (by decide +kernel) rfl (by decide) ?_ ?_
  · refine y_aload_n d_W_asked_80 rfl ?_
    exact y_none
  refine y_tabIn (tgt := 85) d_W_asked_1 hn (by decide +kernel) rfl (by decide) ?_ ?_
  · refine y_aload_n d_W_asked_85 rfl ?_
    refine y_iload_n d_W_asked_86 rfl ?_
    refine y_gO (fun fs1 g1 => y_xI (c_vi (rest := []) d_W_asked_87 k_F_seaLevel s_W_84 (Or.inl ⟨_, _, _, g1, rfl, rfl⟩) rfl rfl (Nat.le_of_ble_eq_true rfl) (Nat.le_trans (Nat.le_of_ble_eq_true rfl : 7 + 1 ≤ 9) hD) (S_F_seaLevel hfl (Nat.le_refl _) h a0 a2)) (fun v8 h7 => ?_) (fun _ _ => y_hp rfl))
    exact y_retIX d_W_asked_90 rfl rfl
  refine y_tabIn (tgt := 91) d_W_asked_1 hn (by decide +kernel) rfl (by decide) ?_ ?_
  · refine y_aload_n d_W_asked_91 rfl ?_
    refine y_iload_n d_W_asked_92 rfl ?_
    refine y_gO (fun fs1 g1 => y_xI (c_vi (rest := []) d_W_asked_93 k_F_levelAfter s_W_87 (Or.inl ⟨_, _, _, g1, rfl, rfl⟩) rfl rfl (Nat.le_of_ble_eq_true rfl) (Nat.le_trans (Nat.le_of_ble_eq_true rfl : 7 + 1 ≤ 9) hD) (S_F_levelAfter hfl (Nat.le_refl _) h a0 a2)) (fun v10 h9 => ?_) (fun _ _ => y_hp rfl))
    exact y_retIX d_W_asked_96 rfl rfl
  refine y_tabIn (tgt := 97) d_W_asked_1 hn (by decide +kernel) rfl (by decide) ?_ ?_
  · refine y_aload_n d_W_asked_97 rfl ?_
    refine y_iload_n d_W_asked_98 rfl ?_
    refine y_gO (fun fs1 g1 => y_xI (c_vi (rest := []) d_W_asked_99 k_F_hoursUntilAfloat s_W_90 (Or.inl ⟨_, _, _, g1, rfl, rfl⟩) rfl rfl (Nat.le_of_ble_eq_true rfl) (Nat.le_trans (Nat.le_of_ble_eq_true rfl : 8 + 1 ≤ 9) hD) (S_F_hoursUntilAfloat hfl (Nat.le_refl _) h a0 a2)) (fun v12 h11 => ?_) (fun _ _ => y_hp rfl))
    exact y_retIX d_W_asked_102 rfl rfl
  refine y_tabIn (tgt := 103) d_W_asked_1 hn (by decide +kernel) rfl (by decide) ?_ ?_
  · refine y_aload_n d_W_asked_103 rfl ?_
    refine y_iload_n d_W_asked_104 rfl ?_
    refine y_gO (fun fs1 g1 => y_xI (c_vi (rest := []) d_W_asked_105 k_F_hasBlock s_W_93 (Or.inl ⟨_, _, _, g1, rfl, rfl⟩) rfl rfl (Nat.le_of_ble_eq_true rfl) (Nat.le_trans (Nat.le_of_ble_eq_true rfl : 7 + 1 ≤ 9) hD) (S_F_hasBlock hfl (Nat.le_refl _) h a0 a2)) (fun v14 h13 => ?_) (fun _ _ => y_hp rfl))
    refine y_cI (c_st (rest := []) d_W_asked_108 k_W_told s_W_36 rfl rfl (Nat.le_of_ble_eq_true rfl) (Nat.le_trans (Nat.le_of_ble_eq_true rfl : 1 + 1 ≤ 9) hD) (S_W_told hfl (Nat.le_refl _) h13 v14)) (fun v16 h15 => ?_)
    exact y_retIX d_W_asked_111 rfl rfl
  refine y_tabIn (tgt := 112) d_W_asked_1 hn (by decide +kernel) rfl (by decide) ?_ ?_
  · refine y_aload_n d_W_asked_112 rfl ?_
    refine y_iload_n d_W_asked_113 rfl ?_
    refine y_gO (fun fs1 g1 => y_xI (c_vi (rest := []) d_W_asked_114 k_F_shipAtPosition s_W_97 (Or.inl ⟨_, _, _, g1, rfl, rfl⟩) rfl rfl (Nat.le_of_ble_eq_true rfl) (Nat.le_trans (Nat.le_of_ble_eq_true rfl : 7 + 1 ≤ 9) hD) (S_F_shipAtPosition hfl (Nat.le_refl _) h a0 a2)) (fun v18 h17 => ?_) (fun _ _ => y_hp rfl))
    exact y_retIX d_W_asked_117 rfl rfl
  refine y_tabIn (tgt := 118) d_W_asked_1 hn (by decide +kernel) rfl (by decide) ?_ ?_
  · refine y_aload_n d_W_asked_118 rfl ?_
    refine y_iload_n d_W_asked_119 rfl ?_
    refine y_gO (fun fs1 g1 => y_xI (c_vi (rest := []) d_W_asked_120 k_F_firstGap s_W_100 (Or.inl ⟨_, _, _, g1, rfl, rfl⟩) rfl rfl (Nat.le_of_ble_eq_true rfl) (Nat.le_trans (Nat.le_of_ble_eq_true rfl : 7 + 1 ≤ 9) hD) (S_F_firstGap hfl (Nat.le_refl _) h a0 a2)) (fun v20 h19 => ?_) (fun _ _ => y_hp rfl))
    exact y_retIX d_W_asked_123 rfl rfl
  refine y_tabIn (tgt := 124) d_W_asked_1 hn (by decide +kernel) rfl (by decide) ?_ ?_
  · refine y_aload_n d_W_asked_124 rfl ?_
    refine y_iload_n d_W_asked_125 rfl ?_
    refine y_gO (fun fs1 g1 => y_xI (c_vi (rest := []) d_W_asked_126 k_F_firstGapByShips s_W_103 (Or.inl ⟨_, _, _, g1, rfl, rfl⟩) rfl rfl (Nat.le_of_ble_eq_true rfl) (Nat.le_trans (Nat.le_of_ble_eq_true rfl : 7 + 1 ≤ 9) hD) (S_F_firstGapByShips hfl (Nat.le_refl _) h a0 a2)) (fun v22 h21 => ?_) (fun _ _ => y_hp rfl))
    exact y_retIX d_W_asked_129 rfl rfl
  refine y_tabIn (tgt := 130) d_W_asked_1 hn (by decide +kernel) rfl (by decide) ?_ ?_
  · refine y_aload_n d_W_asked_130 rfl ?_
    refine y_iload_n d_W_asked_131 rfl ?_
    refine y_gO (fun fs1 g1 => y_xI (c_vi (rest := []) d_W_asked_132 k_F_shipAtRank s_W_106 (Or.inl ⟨_, _, _, g1, rfl, rfl⟩) rfl rfl (Nat.le_of_ble_eq_true rfl) (Nat.le_trans (Nat.le_of_ble_eq_true rfl : 6 + 1 ≤ 9) hD) (S_F_shipAtRank hfl (Nat.le_refl _) h a0 a2)) (fun v24 h23 => ?_) (fun _ _ => y_hp rfl))
    exact y_retIX d_W_asked_135 rfl rfl
  refine y_tabIn (tgt := 136) d_W_asked_1 hn (by decide +kernel) rfl (by decide) ?_ ?_
  · refine y_aload_n d_W_asked_136 rfl ?_
    exact y_none
  refine y_tabIn (tgt := 141) d_W_asked_1 hn (by decide +kernel) rfl (by decide) ?_ ?_
  · refine y_aload_n d_W_asked_141 rfl ?_
    exact y_none
  exact y_none
noncomputable def P_W_ask (Θ : mW) (N : Nat) (h : mH) (a0 : Nat) (a1 : Int32) (a2 : Int32) : Option (Int32 × mH) :=
  (bx (P_W_asked Θ N h a0 a1 a2) (fun v2 h1 => (some (v2, h1))) (fun n9 h3 => if n9 = 10 then (some ((J (-2004)), h3)) else if n9 = 11 then (some ((J (-2003)), h3)) else if n9 = 12 then (some ((J (-2005)), h3)) else if n9 = 14 then (some ((J (-2002)), h3)) else none))
theorem S_W_ask (hfl : HF l Θ) (hD : 10 ≤ d) (h : mH) (a0 : Nat) (a1 : Int32) (a2 : Int32) : mMs l Θ d M_W_ask [.ref a0, .int a1, .int a2] h (tR vI) (P_W_ask Θ N h a0 a1 a2) := by
  refine mMs.of hfl (by decide +kernel) rfl (Nat.le_of_ble_eq_true rfl) (loc := [some (.ref a0), some (.int a1), some (.int a2), none]) rfl ?_
  unfold P_W_ask
  refine y_aload_n d_W_ask_0 rfl ?_
  refine y_iload_n d_W_ask_1 rfl ?_
  refine y_iload_n d_W_ask_2 rfl ?_
  refine y_xI (c_st (rest := []) d_W_ask_3 k_W_asked s_W_118 rfl rfl (Nat.le_of_ble_eq_true rfl) (Nat.le_trans (Nat.le_of_ble_eq_true rfl : 9 + 1 ≤ 10) hD) (S_W_asked hfl (Nat.le_refl _) h a0 a1 a2)) (fun v2 h1 => ?_) (fun n9 h3 => y_h1 (show mCatch M_W_ask 3 10 22 from ⟨[(0, 6, 7, 122), (0, 6, 12, 67), (0, 6, 17, 69)], (0, 6, 22, 73), [], "java/util/NoSuchElementException", rfl, by decide, by decide, rfl, mG (2, 101) (by decide +kernel), mN (3, 14) (by decide +kernel), (by intro z hz; simp only [List.mem_cons, List.not_mem_nil, or_false] at hz; rcases hz with rfl | rfl | rfl <;> first | exact ⟨by decide, "java/lang/IndexOutOfBoundsException", mG (5, 208) (by decide +kernel), by decide +kernel⟩ | exact ⟨by decide, "java/lang/IllegalArgumentException", mG (2, 98) (by decide +kernel), by decide +kernel⟩ | exact ⟨by decide, "java/lang/IllegalStateException", mG (2, 99) (by decide +kernel), by decide +kernel⟩)⟩) (fun q4 => ?_) (y_h1 (show mCatch M_W_ask 3 11 12 from ⟨[(0, 6, 7, 122)], (0, 6, 12, 67), [(0, 6, 17, 69), (0, 6, 22, 73)], "java/lang/IllegalArgumentException", rfl, by decide, by decide, rfl, mG (2, 98) (by decide +kernel), mN (2, 142) (by decide +kernel), (by intro z hz; simp only [List.mem_cons, List.not_mem_nil, or_false] at hz; rcases hz with rfl <;> first | exact ⟨by decide, "java/lang/IndexOutOfBoundsException", mG (5, 208) (by decide +kernel), by decide +kernel⟩)⟩) (fun q4 => ?_) (y_h1 (show mCatch M_W_ask 3 12 17 from ⟨[(0, 6, 7, 122), (0, 6, 12, 67)], (0, 6, 17, 69), [(0, 6, 22, 73)], "java/lang/IllegalStateException", rfl, by decide, by decide, rfl, mG (2, 99) (by decide +kernel), mN (2, 214) (by decide +kernel), (by intro z hz; simp only [List.mem_cons, List.not_mem_nil, or_false] at hz; rcases hz with rfl | rfl <;> first | exact ⟨by decide, "java/lang/IndexOutOfBoundsException", mG (5, 208) (by decide +kernel), by decide +kernel⟩ | exact ⟨by decide, "java/lang/IllegalArgumentException", mG (2, 98) (by decide +kernel), by decide +kernel⟩)⟩) (fun q4 => ?_) (y_h1 (show mCatch M_W_ask 3 14 7 from ⟨[], (0, 6, 7, 122), [(0, 6, 12, 67), (0, 6, 17, 69), (0, 6, 22, 73)], "java/lang/IndexOutOfBoundsException", rfl, by decide, by decide, rfl, mG (5, 208) (by decide +kernel), mN (5, 181) (by decide +kernel), (fun z hz => absurd hz List.not_mem_nil)⟩) (fun q4 => ?_) (y_h0)))))
  · exact y_retI d_W_ask_6 rfl rfl
  · refine y_astore_n (loc2 := [some (.ref a0), some (.int a1), some (.int a2), some (.ref q4)]) d_W_ask_22 (Nat.le_of_ble_eq_true rfl) rfl rfl ?_
    refine y_sipush (v := (J (-2004))) d_W_ask_23 (by decide +kernel) ?_
    exact y_retI d_W_ask_26 rfl rfl
  · refine y_astore_n (loc2 := [some (.ref a0), some (.int a1), some (.int a2), some (.ref q4)]) d_W_ask_12 (Nat.le_of_ble_eq_true rfl) rfl rfl ?_
    refine y_sipush (v := (J (-2003))) d_W_ask_13 (by decide +kernel) ?_
    exact y_retI d_W_ask_16 rfl rfl
  · refine y_astore_n (loc2 := [some (.ref a0), some (.int a1), some (.int a2), some (.ref q4)]) d_W_ask_17 (Nat.le_of_ble_eq_true rfl) rfl rfl ?_
    refine y_sipush (v := (J (-2005))) d_W_ask_18 (by decide +kernel) ?_
    exact y_retI d_W_ask_21 rfl rfl
  · refine y_astore_n (loc2 := [some (.ref a0), some (.int a1), some (.int a2), some (.ref q4)]) d_W_ask_7 (Nat.le_of_ble_eq_true rfl) rfl rfl ?_
    refine y_sipush (v := (J (-2002))) d_W_ask_8 (by decide +kernel) ?_
    exact y_retI d_W_ask_11 rfl rfl
noncomputable def B_W_isLine_17 (Θ : mW) (N : Nat) (K57 : mH → Int32 → Option ((Int32 ⊕ Nat) × mH)) (f0_ : Nat) (f2_ : Nat) (rc : mH → Int32 → Int32 → Option ((Int32 ⊕ Nat) × mH)) (h : mH) (v3_ : Int32) (v4_ : Int32) : Option ((Int32 ⊕ Nat) × mH) :=
  (gS Θ h f2_ (bc (P_ST_length Θ N h f2_) (fun v7 h6 => (if v7 ≤ v4_ then (K57 h6 v3_) else (if v3_ = 0 then (K57 h6 v3_) else (gO Θ h6 0 f0_ (bx (P_F_lineAt Θ N h6 f0_ v4_) (fun v9 h8 => (gS Θ h8 f2_ (bc (P_ST_charAt Θ N h8 f2_ v4_) (fun v11 h10 => (jn (fun (h13 : mH) (s14 : Int32) => (rc h13 s14 (v4_ + (J 1)))) (fun j12 => (if v9 = v11 then (j12 h10 (J 1)) else (j12 h10 (J 0))))))))) (fun n9 h9 => xp n9 h9))))))))
noncomputable def P_W_isLine_17 (Θ : mW) (N : Nat) (K57 : mH → Int32 → Option ((Int32 ⊕ Nat) × mH)) (f0_ : Nat) (f2_ : Nat) : Nat → mH → Int32 → Int32 → Option ((Int32 ⊕ Nat) × mH) :=
  lp (fun _ _ _ => none) (B_W_isLine_17 Θ N K57 f0_ f2_)
noncomputable def P_W_isLine (Θ : mW) (N : Nat) (h : mH) (a0 : Nat) (a1 : Int32) (a2 : Nat) : Option ((Int32 ⊕ Nat) × mH) :=
  (gS Θ h a2 (bc (P_ST_length Θ N h a2) (fun v2 h1 => (jn (fun (h4 : mH) (s5 : Int32) => (P_W_isLine_17 Θ N (fun h15 u16 => (if u16 = J 0 ∨ u16 = J 1 then some (.inl u16, h15) else none)) a0 a2 N h4 s5 (J 0))) (fun j3 => (if a1 = v2 then (j3 h1 (J 1)) else (j3 h1 (J 0))))))))
theorem SB_W_isLine_17 (hfl : HF l Θ) (hD : 7 ≤ d) {K57 : mH → Int32 → Option ((Int32 ⊕ Nat) × mH)} {f0_ : Nat} {f2_ : Nat}  (hK57 : ∀ (h : mH) (v3_ : Int32), mY l Θ d M_W_isLine 57 [none, none, none, some (.int v3_), none] [] h (tX vI) (K57 h v3_)) (rc : mH → Int32 → Int32 → Option ((Int32 ⊕ Nat) × mH)) (ih : ∀ (h : mH) (v3_ : Int32) (v4_ : Int32), mY l Θ d M_W_isLine 17 [some (.ref f0_), none, some (.ref f2_), some (.int v3_), some (.int v4_)] [] h (tX vI) (rc h v3_ v4_)) : ∀ (h : mH) (v3_ : Int32) (v4_ : Int32), mY l Θ d M_W_isLine 17 [some (.ref f0_), none, some (.ref f2_), some (.int v3_), some (.int v4_)] [] h (tX vI) (B_W_isLine_17 Θ N K57 f0_ f2_ rc h v3_ v4_) := by
  intro h v3_ v4_
  unfold B_W_isLine_17
  refine y_iload d_W_isLine_17 rfl ?_
  refine y_aload_n d_W_isLine_19 rfl ?_
  refine y_gS' mTXT_ok ⟨_, rfl, rfl⟩ (fun g1 => y_cI (c_vi (rest := [.int v4_]) d_W_isLine_20 k_ST_length s_W_171 g1 rfl rfl (Nat.le_of_ble_eq_true rfl) (Nat.le_trans (Nat.le_of_ble_eq_true rfl : 2 + 1 ≤ 7) hD) (S_ST_length hfl (Nat.le_refl _) h f2_)) (fun v7 h6 => ?_))
  refine y_icmp_ge (tgt := 57) d_W_isLine_23 (by decide) ?_ ?_
  · exact y_wk (loc2 := [none, none, none, some (.int v3_), none]) ⟨rfl, trivial⟩ (hK57 h6 v3_)
  · refine y_iload_n d_W_isLine_26 rfl ?_
    refine y_if_eq (tgt := 57) d_W_isLine_27 (by decide) ?_ ?_
    · exact y_wk (loc2 := [none, none, none, some (.int v3_), none]) ⟨rfl, trivial⟩ (hK57 h6 v3_)
    · refine y_aload_n d_W_isLine_30 rfl ?_
      refine y_iload d_W_isLine_31 rfl ?_
      refine y_gO (fun fs1 g1 => y_xI (c_vi (rest := []) d_W_isLine_33 k_F_lineAt s_W_176 (Or.inl ⟨_, _, _, g1, rfl, rfl⟩) rfl rfl (Nat.le_of_ble_eq_true rfl) (Nat.le_trans (Nat.le_of_ble_eq_true rfl : 6 + 1 ≤ 7) hD) (S_F_lineAt hfl (Nat.le_refl _) h6 f0_ v4_)) (fun v9 h8 => ?_) (fun _ _ => y_hp rfl))
      refine y_aload_n d_W_isLine_36 rfl ?_
      refine y_iload d_W_isLine_37 rfl ?_
      refine y_gS' mTXT_ok ⟨_, rfl, rfl⟩ (fun g1 => y_cI (c_vi (rest := [.int v9]) d_W_isLine_39 k_ST_charAt s_W_180 g1 rfl rfl (Nat.le_of_ble_eq_true rfl) (Nat.le_trans (Nat.le_of_ble_eq_true rfl : 4 + 1 ≤ 7) hD) (S_ST_charAt hfl (Nat.le_refl _) h8 f2_ v4_)) (fun v11 h10 => ?_))
      refine y_jn (C := fun (j9 : mH → Int32 → Option ((Int32 ⊕ Nat) × mH)) => ∀ (h13 : mH) (s14 : Int32), mY l Θ d M_W_isLine 50 [some (.ref f0_), none, some (.ref f2_), none, some (.int v4_)] [.int s14] h13 (tX vI) (j9 h13 s14)) (fun h13 s14 => ?_) (fun j12 Hj12 => ?_)
      · refine y_istore_n (loc2 := [some (.ref f0_), none, some (.ref f2_), some (.int s14), some (.int v4_)]) d_W_isLine_50 (Nat.le_of_ble_eq_true rfl) rfl rfl ?_
        refine y_iinc (v := (v4_ + (J 1))) (loc2 := [some (.ref f0_), none, some (.ref f2_), some (.int s14), some (.int (v4_ + (J 1)))]) d_W_isLine_51 rfl rfl (Nat.le_of_ble_eq_true rfl) rfl rfl ?_
        refine y_goto (tgt := 17) d_W_isLine_54 (by decide) ?_
        exact ih h13 s14 (v4_ + (J 1))
      · refine y_icmp_ne (tgt := 49) d_W_isLine_42 (by decide) ?_ ?_
        · refine y_iconst (v := (J 0)) d_W_isLine_49 rfl ?_
          exact y_wk (loc2 := [some (.ref f0_), none, some (.ref f2_), none, some (.int v4_)]) ⟨rfl, ⟨rfl, ⟨rfl, trivial⟩⟩⟩ (Hj12 h10 (J 0))
        · refine y_iconst (v := (J 1)) d_W_isLine_45 rfl ?_
          refine y_goto (tgt := 50) d_W_isLine_46 (by decide) ?_
          exact y_wk (loc2 := [some (.ref f0_), none, some (.ref f2_), none, some (.int v4_)]) ⟨rfl, ⟨rfl, ⟨rfl, trivial⟩⟩⟩ (Hj12 h10 (J 1))
theorem S_W_isLine_17 (hfl : HF l Θ) (hD : 7 ≤ d) {K57 : mH → Int32 → Option ((Int32 ⊕ Nat) × mH)} {f0_ : Nat} {f2_ : Nat}  (hK57 : ∀ (h : mH) (v3_ : Int32), mY l Θ d M_W_isLine 57 [none, none, none, some (.int v3_), none] [] h (tX vI) (K57 h v3_)) : ∀ (n : Nat) (h : mH) (v3_ : Int32) (v4_ : Int32), mY l Θ d M_W_isLine 17 [some (.ref f0_), none, some (.ref f2_), some (.int v3_), some (.int v4_)] [] h (tX vI) (P_W_isLine_17 Θ N K57 f0_ f2_ n h v3_ v4_) :=
  fun n => lp_all (C := fun (rc : mH → Int32 → Int32 → Option ((Int32 ⊕ Nat) × mH)) => ∀ (h : mH) (v3_ : Int32) (v4_ : Int32), mY l Θ d M_W_isLine 17 [some (.ref f0_), none, some (.ref f2_), some (.int v3_), some (.int v4_)] [] h (tX vI) (rc h v3_ v4_)) (fun _ _ _ => y_none) (fun rc ih => SB_W_isLine_17 hfl hD hK57 rc ih) n
theorem S_W_isLine (hfl : HF l Θ) (hD : 7 ≤ d) (h : mH) (a0 : Nat) (a1 : Int32) (a2 : Nat) : mMs l Θ d M_W_isLine [.ref a0, .int a1, .ref a2] h (tX vI) (P_W_isLine Θ N h a0 a1 a2) := by
  refine mMs.of hfl (by decide +kernel) rfl (Nat.le_of_ble_eq_true rfl) (loc := [some (.ref a0), some (.int a1), some (.ref a2), none, none]) rfl ?_
  unfold P_W_isLine
  refine y_iload_n d_W_isLine_0 rfl ?_
  refine y_aload_n d_W_isLine_1 rfl ?_
  refine y_gS' mTXT_ok ⟨_, rfl, rfl⟩ (fun g1 => y_cI (c_vi (rest := [.int a1]) d_W_isLine_2 k_ST_length s_W_171 g1 rfl rfl (Nat.le_of_ble_eq_true rfl) (Nat.le_trans (Nat.le_of_ble_eq_true rfl : 2 + 1 ≤ 7) hD) (S_ST_length hfl (Nat.le_refl _) h a2)) (fun v2 h1 => ?_))
  refine y_jn (C := fun (j9 : mH → Int32 → Option ((Int32 ⊕ Nat) × mH)) => ∀ (h4 : mH) (s5 : Int32), mY l Θ d M_W_isLine 13 [some (.ref a0), none, some (.ref a2), none, none] [.int s5] h4 (tX vI) (j9 h4 s5)) (fun h4 s5 => ?_) (fun j3 Hj3 => ?_)
  · refine y_istore_n (loc2 := [some (.ref a0), none, some (.ref a2), some (.int s5), none]) d_W_isLine_13 (Nat.le_of_ble_eq_true rfl) rfl rfl ?_
    refine y_iconst (v := (J 0)) d_W_isLine_14 rfl ?_
    refine y_istore (loc2 := [some (.ref a0), none, some (.ref a2), some (.int s5), some (.int (J 0))]) d_W_isLine_15 (Nat.le_of_ble_eq_true rfl) rfl rfl ?_
    refine S_W_isLine_17 hfl hD (fun h15 u16 => ?_) N h4 s5 (J 0)
    refine y_iload_n d_W_isLine_57 rfl ?_
    exact y_gZ (fun hn _ => y_retIX d_W_isLine_58 rfl hn)
  · refine y_icmp_ne (tgt := 12) d_W_isLine_5 (by decide) ?_ ?_
    · refine y_iconst (v := (J 0)) d_W_isLine_12 rfl ?_
      exact y_wk (loc2 := [some (.ref a0), none, some (.ref a2), none, none]) ⟨rfl, ⟨rfl, trivial⟩⟩ (Hj3 h1 (J 0))
    · refine y_iconst (v := (J 1)) d_W_isLine_8 rfl ?_
      refine y_goto (tgt := 13) d_W_isLine_9 (by decide) ?_
      exact y_wk (loc2 := [some (.ref a0), none, some (.ref a2), none, none]) ⟨rfl, ⟨rfl, trivial⟩⟩ (Hj3 h1 (J 1))
noncomputable def B_W_arePositionsRight_194 (Θ : mW) (N : Nat) (K244 : mH → Option ((Int32 ⊕ Nat) × mH)) (f0_ : Nat) (f1_ : Int32) (f2_ : Nat) (f3_ : Nat) (f4_ : Int32) (f5_ : Int32) (f6_ : Int32) (rc : mH → Int32 → Option ((Int32 ⊕ Nat) × mH)) (h : mH) (v7_ : Int32) : Option ((Int32 ⊕ Nat) × mH) :=
  (gO Θ h 0 f0_ (bc (P_F_shipCount Θ N h f0_) (fun v31 h30 => (if v31 ≤ v7_ then (K244 h30) else (bo (aR Θ h30 0 f2_ v7_) (fun v32 => (gO Θ h30 0 f0_ (bx (P_F_hasBlock Θ N h30 f0_ f5_) (fun v34 h33 => (jn (fun (h36 : mH) (s37 : Int32) => (bc (P_W_told Θ N h36 s37) (fun v39 h38 => (bo (aW Θ h38 0 f2_ v7_ (v32 + v39)) (fun h40 => (rc h40 (v7_ + (J 1)))))))) (fun j35 => (jn (fun (h42 : mH) => (j35 h42 (J 0))) (fun j41 => (if v34 = 0 then (j41 h33) else (gO Θ h33 0 f0_ (bx (P_F_shipAt Θ N h33 f0_ v7_) (fun v44 h43 => (if v44 = f6_ then (j35 h43 (J 1)) else (j41 h43))) (fun n9 h9 => xp n9 h9))))))))) (fun n9 h9 => xp n9 h9)))))))))
noncomputable def P_W_arePositionsRight_194 (Θ : mW) (N : Nat) (K244 : mH → Option ((Int32 ⊕ Nat) × mH)) (f0_ : Nat) (f1_ : Int32) (f2_ : Nat) (f3_ : Nat) (f4_ : Int32) (f5_ : Int32) (f6_ : Int32) : Nat → mH → Int32 → Option ((Int32 ⊕ Nat) × mH) :=
  lp (fun _ _ => none) (B_W_arePositionsRight_194 Θ N K244 f0_ f1_ f2_ f3_ f4_ f5_ f6_)
noncomputable def B_W_arePositionsRight_90 (Θ : mW) (N : Nat) (K250 : mH → Int32 → Nat → Option ((Int32 ⊕ Nat) × mH)) (f0_ : Nat) (f2_ : Nat) (f4_ : Int32) (rc : mH → Int32 → Nat → Int32 → Option ((Int32 ⊕ Nat) × mH)) (h : mH) (v1_ : Int32) (v3_ : Nat) (v5_ : Int32) : Option ((Int32 ⊕ Nat) × mH) :=
  (if (J 60) ≤ v5_ then (K250 h v1_ v3_) else (bc (P_W_ask Θ N h f0_ (J 7) v5_) (fun v11 h10 => (jn (fun (h13 : mH) (s14 : Int32) => (bc (P_W_told Θ N h13 s14) (fun v16 h15 => (al Θ h15 (oB 8 [.null, .int 0, .int 0, .int 0]) (fun q17 h18 => (bc (P_SB_init Θ N h18 q17) (fun v20 h19 => (gO Θ h19 8 q17 (bc (P_SB_append_o Θ N h19 q17 v3_) (fun v22 h21 => (jn (fun (h24 : mH) (s25 : Nat) => (gO Θ h24 8 v22 (bc (P_SB_append_o Θ N h24 v22 s25) (fun v27 h26 => (gO Θ h26 8 v27 (bc (P_SB_toString Θ N h26 v27) (fun v29 h28 => (P_W_arePositionsRight_194 Θ N (fun h45 => (rc h45 (v1_ + v16) v29 (v5_ + (J 1)))) f0_ (v1_ + v16) f2_ v29 f4_ v5_ v11 N h28 (J 0))))))))) (fun j23 => (if v11 < 0 then (gO Θ h21 0 f0_ (bx (P_F_hasBlock Θ N h21 f0_ v5_) (fun v47 h46 => (if v47 = 0 then (j23 h46 (mwad Θ 92)) else (j23 h46 (mwad Θ 91)))) (fun n9 h9 => xp n9 h9))) else (al Θ h21 (oB 8 [.null, .int 0, .int 0, .int 0]) (fun q48 h49 => (bc (P_SB_init Θ N h49 q48) (fun v51 h50 => (gO Θ h50 8 q48 (bc (P_SB_append_o Θ N h50 q48 (mwad Θ 90)) (fun v53 h52 => (gO Θ h52 8 v53 (bc (P_SB_append_I Θ N h52 v53 (v11 - v11 / (J 10) * (J 10))) (fun v55 h54 => (gO Θ h54 8 v55 (bc (P_SB_toString Θ N h54 v55) (fun v57 h56 => (j23 h56 v57))))))))))))))))))))))))))) (fun j12 => (if v11 = (J (-2004)) then (j12 h10 (J 1)) else (j12 h10 (J 0))))))))
noncomputable def P_W_arePositionsRight_90 (Θ : mW) (N : Nat) (K250 : mH → Int32 → Nat → Option ((Int32 ⊕ Nat) × mH)) (f0_ : Nat) (f2_ : Nat) (f4_ : Int32) : Nat → mH → Int32 → Nat → Int32 → Option ((Int32 ⊕ Nat) × mH) :=
  lp (fun _ _ _ _ => none) (B_W_arePositionsRight_90 Θ N K250 f0_ f2_ f4_)
noncomputable def B_W_arePositionsRight_253 (Θ : mW) (N : Nat) (K314 : mH → Int32 → Option ((Int32 ⊕ Nat) × mH)) (f0_ : Nat) (f1_ : Int32) (f2_ : Nat) (f3_ : Nat) (rc : mH → Int32 → Int32 → Option ((Int32 ⊕ Nat) × mH)) (h : mH) (v4_ : Int32) (v5_ : Int32) : Option ((Int32 ⊕ Nat) × mH) :=
  (gO Θ h 0 f0_ (bc (P_F_shipCount Θ N h f0_) (fun v62 h61 => (if v62 ≤ v5_ then (K314 h61 v4_) else (gO Θ h61 0 f0_ (bx (P_F_shipAt Θ N h61 f0_ v5_) (fun v64 h63 => (jn (fun (h66 : mH) (s67 : Int32) => (rc h66 s67 (v5_ + (J 1)))) (fun j65 => (jn (fun (h69 : mH) => (j65 h69 (J 0))) (fun j68 => (if v4_ = 0 then (j68 h63) else (gO Θ h63 0 f0_ (bx (P_F_blocksBeneath Θ N h63 f0_ v64) (fun v71 h70 => (bo (aR Θ h70 0 f2_ v5_) (fun v72 => (if v71 = v72 then (gO Θ h70 0 f0_ (bx (P_F_blocksBeneathByBlocks Θ N h70 f0_ v64) (fun v74 h73 => (bo (aR Θ h73 0 f2_ v5_) (fun v75 => (if v74 = v75 then (j65 h73 (J 1)) else (j68 h73))))) (fun n9 h9 => xp n9 h9))) else (j68 h70))))) (fun n9 h9 => xp n9 h9))))))))) (fun n9 h9 => xp n9 h9)))))))
noncomputable def P_W_arePositionsRight_253 (Θ : mW) (N : Nat) (K314 : mH → Int32 → Option ((Int32 ⊕ Nat) × mH)) (f0_ : Nat) (f1_ : Int32) (f2_ : Nat) (f3_ : Nat) : Nat → mH → Int32 → Int32 → Option ((Int32 ⊕ Nat) × mH) :=
  lp (fun _ _ _ => none) (B_W_arePositionsRight_253 Θ N K314 f0_ f1_ f2_ f3_)
noncomputable def B_W_arePositionsRight_335 (Θ : mW) (N : Nat) (K399 : mH → Int32 → Option ((Int32 ⊕ Nat) × mH)) (f0_ : Nat) (f1_ : Int32) (f3_ : Nat) (f4_ : Int32) (f5_ : Int32) (rc : mH → Int32 → Int32 → Int32 → Option ((Int32 ⊕ Nat) × mH)) (h : mH) (v6_ : Int32) (v7_ : Int32) (v8_ : Int32) : Option ((Int32 ⊕ Nat) × mH) :=
  (if (J 60) ≤ v8_ then (K399 h v6_) else (if 0 ≤ v6_ then (K399 h v6_) else (bc (P_W_ask Θ N h f0_ (J 7) v8_) (fun v79 h78 => (jn (fun (h81 : mH) (s82 : Int32) => (jn (fun (h84 : mH) (s85 : Int32) => (rc h84 s85 s82 (v8_ + (J 1)))) (fun j83 => (if s82 = f5_ then (j83 h81 ((v8_ - f5_) + (J 1))) else (j83 h81 (J (-2004))))))) (fun j80 => (if v79 = (J (-2004)) then (j80 h78 (v7_ + (J 1))) else (j80 h78 (J 0)))))))))
noncomputable def P_W_arePositionsRight_335 (Θ : mW) (N : Nat) (K399 : mH → Int32 → Option ((Int32 ⊕ Nat) × mH)) (f0_ : Nat) (f1_ : Int32) (f3_ : Nat) (f4_ : Int32) (f5_ : Int32) : Nat → mH → Int32 → Int32 → Int32 → Option ((Int32 ⊕ Nat) × mH) :=
  lp (fun _ _ _ _ => none) (B_W_arePositionsRight_335 Θ N K399 f0_ f1_ f3_ f4_ f5_)
noncomputable def B_W_arePositionsRight_317 (Θ : mW) (N : Nat) (K443 : mH → Int32 → Option ((Int32 ⊕ Nat) × mH)) (f0_ : Nat) (f1_ : Int32) (f3_ : Nat) (rc : mH → Int32 → Int32 → Option ((Int32 ⊕ Nat) × mH)) (h : mH) (v4_ : Int32) (v5_ : Int32) : Option ((Int32 ⊕ Nat) × mH) :=
  (if (J 61) ≤ v5_ then (K443 h v4_) else (P_W_arePositionsRight_335 Θ N (fun h86 u87 => (jn (fun (h89 : mH) (s90 : Int32) => (rc h89 s90 (v5_ + (J 1)))) (fun j88 => (jn (fun (h92 : mH) => (j88 h92 (J 0))) (fun j91 => (if v4_ = 0 then (j91 h86) else (bc (P_W_ask Θ N h86 f0_ (J 8) v5_) (fun v94 h93 => (if v94 = u87 then (bc (P_W_ask Θ N h93 f0_ (J 9) v5_) (fun v96 h95 => (if v96 = u87 then (j88 h95 (J 1)) else (j91 h95)))) else (j91 h93)))))))))) f0_ f1_ f3_ v4_ v5_ N h (J (-2004)) (J 0) (J 0)))
noncomputable def P_W_arePositionsRight_317 (Θ : mW) (N : Nat) (K443 : mH → Int32 → Option ((Int32 ⊕ Nat) × mH)) (f0_ : Nat) (f1_ : Int32) (f3_ : Nat) : Nat → mH → Int32 → Int32 → Option ((Int32 ⊕ Nat) × mH) :=
  lp (fun _ _ _ => none) (B_W_arePositionsRight_317 Θ N K443 f0_ f1_ f3_)
noncomputable def P_W_arePositionsRight (Θ : mW) (N : Nat) (h : mH) (a0 : Nat) : Option ((Int32 ⊕ Nat) × mH) :=
  (gO Θ h 0 a0 (bc (P_F_shipCount Θ N h a0) (fun v2 h1 => (ala Θ h1 4 v2 (fun n => .inl (0, n, .inl (fun _ => 0))) (fun q3 h4 => (bc (P_W_ask Θ N h4 a0 (J 6) (J 60)) (fun v6 h5 => (jn (fun (h8 : mH) (s9 : Int32) => (P_W_arePositionsRight_90 Θ N (fun h58 u59 u60 => (P_W_arePositionsRight_253 Θ N (fun h76 u77 => (P_W_arePositionsRight_317 Θ N (fun h97 u98 => (if u98 = 0 then (some (.inl (J 0), h97)) else (gO Θ h97 0 a0 (bc (P_F_freeMetres Θ N h97 a0) (fun v100 h99 => (if v100 = u59 then (gO Θ h99 0 a0 (bc (P_F_takenShare Θ N h99 a0) (fun v102 h101 => (if (FP.fdiv (FP.i2f ((J 60) - u59)) (1114636288 : UInt32)) &&& 0x7fffffff ≤ 0x7f800000 then (if (Op.cmpValue (FP.fcmp v102 (FP.fdiv (FP.i2f ((J 60) - u59)) (1114636288 : UInt32))) .l) = 0 then (gO Θ h101 0 a0 (bc (P_F_describeDock Θ N h101 a0) (fun v104 h103 => (bx (P_W_isLine Θ N h103 a0 v104 u60) (fun v106 h105 => (if v106 = 0 then (some (.inl (J 0), h105)) else (some (.inl (J 1), h105)))) (fun n9 h9 => xp n9 h9))))) else (some (.inl (J 0), h101))) else none)))) else (some (.inl (J 0), h99)))))))) a0 u59 u60 N h76 u77 (J 1))) a0 u59 q3 u60 N h58 s9 (J 0))) a0 q3 s9 N h8 (J 0) (mwad Θ 90) (J 0))) (fun j7 => (jn (fun (h108 : mH) => (j7 h108 (J 0))) (fun j107 => (if v6 = (J (-2003)) then (bc (P_W_ask Θ N h5 a0 (J 7) (J (-1))) (fun v110 h109 => (if v110 = (J (-2003)) then (bc (P_W_ask Θ N h109 a0 (J 8) (J 0)) (fun v112 h111 => (if v112 = (J (-2003)) then (bc (P_W_ask Θ N h111 a0 (J 8) (J 61)) (fun v114 h113 => (if v114 = (J (-2003)) then (bc (P_W_ask Θ N h113 a0 (J 9) (J 61)) (fun v116 h115 => (if v116 = (J (-2003)) then (j7 h115 (J 1)) else (j107 h115)))) else (j107 h113)))) else (j107 h111)))) else (j107 h109)))) else (j107 h5)))))))))))))
theorem SB_W_arePositionsRight_194 (hfl : HF l Θ) (hD : 12 ≤ d) {K244 : mH → Option ((Int32 ⊕ Nat) × mH)} {f0_ : Nat} {f1_ : Int32} {f2_ : Nat} {f3_ : Nat} {f4_ : Int32} {f5_ : Int32} {f6_ : Int32}  (hK244 : ∀ (h : mH), mY l Θ d M_W_arePositionsRight 244 [some (.ref f0_), some (.int f1_), some (.ref f2_), some (.ref f3_), some (.int f4_), some (.int f5_), none, none, none] [] h (tX vI) (K244 h)) (rc : mH → Int32 → Option ((Int32 ⊕ Nat) × mH)) (ih : ∀ (h : mH) (v7_ : Int32), mY l Θ d M_W_arePositionsRight 194 [some (.ref f0_), some (.int f1_), some (.ref f2_), some (.ref f3_), some (.int f4_), some (.int f5_), some (.int f6_), some (.int v7_), none] [] h (tX vI) (rc h v7_)) : ∀ (h : mH) (v7_ : Int32), mY l Θ d M_W_arePositionsRight 194 [some (.ref f0_), some (.int f1_), some (.ref f2_), some (.ref f3_), some (.int f4_), some (.int f5_), some (.int f6_), some (.int v7_), none] [] h (tX vI) (B_W_arePositionsRight_194 Θ N K244 f0_ f1_ f2_ f3_ f4_ f5_ f6_ rc h v7_) := by
  intro h v7_
  unfold B_W_arePositionsRight_194
  refine y_iload d_W_arePositionsRight_194 rfl ?_
  refine y_aload_n d_W_arePositionsRight_196 rfl ?_
  refine y_gO (fun fs1 g1 => y_cI (c_vi (rest := [.int v7_]) d_W_arePositionsRight_197 k_F_shipCount s_W_135 (Or.inl ⟨_, _, _, g1, rfl, rfl⟩) rfl rfl (Nat.le_of_ble_eq_true rfl) (Nat.le_trans (Nat.le_of_ble_eq_true rfl : 1 + 1 ≤ 12) hD) (S_F_shipCount hfl (Nat.le_refl _) h f0_)) (fun v31 h30 => ?_))
  refine y_icmp_ge (tgt := 244) d_W_arePositionsRight_200 (by decide) ?_ ?_
  · exact y_wk (loc2 := [some (.ref f0_), some (.int f1_), some (.ref f2_), some (.ref f3_), some (.int f4_), some (.int f5_), none, none, none]) ⟨rfl, ⟨rfl, ⟨rfl, ⟨rfl, ⟨rfl, ⟨rfl, trivial⟩⟩⟩⟩⟩⟩ (hK244 h30)
  · refine y_aload_n d_W_arePositionsRight_203 rfl ?_
    refine y_iload d_W_arePositionsRight_204 rfl ?_
    refine y_dup2 d_W_arePositionsRight_206 rfl rfl ?_
    refine y_iald d_W_arePositionsRight_207 (fun v32 => ?_)
    refine y_aload_n d_W_arePositionsRight_208 rfl ?_
    refine y_iload d_W_arePositionsRight_209 rfl ?_
    refine y_gO (fun fs1 g1 => y_xI (c_vi (rest := [.int v32, .int v7_, .ref f2_]) d_W_arePositionsRight_211 k_F_hasBlock s_W_93 (Or.inl ⟨_, _, _, g1, rfl, rfl⟩) rfl rfl (Nat.le_of_ble_eq_true rfl) (Nat.le_trans (Nat.le_of_ble_eq_true rfl : 7 + 1 ≤ 12) hD) (S_F_hasBlock hfl (Nat.le_refl _) h30 f0_ f5_)) (fun v34 h33 => ?_) (fun _ _ => y_hp rfl))
    refine y_jn (C := fun (j9 : mH → Int32 → Option ((Int32 ⊕ Nat) × mH)) => ∀ (h36 : mH) (s37 : Int32), mY l Θ d M_W_arePositionsRight 233 [some (.ref f0_), some (.int f1_), some (.ref f2_), some (.ref f3_), some (.int f4_), some (.int f5_), some (.int f6_), some (.int v7_), none] [.int s37, .int v32, .int v7_, .ref f2_] h36 (tX vI) (j9 h36 s37)) (fun h36 s37 => ?_) (fun j35 Hj35 => ?_)
    · refine y_cI (c_st (rest := [.int v32, .int v7_, .ref f2_]) d_W_arePositionsRight_233 k_W_told s_W_36 rfl rfl (Nat.le_of_ble_eq_true rfl) (Nat.le_trans (Nat.le_of_ble_eq_true rfl : 1 + 1 ≤ 12) hD) (S_W_told hfl (Nat.le_refl _) h36 s37)) (fun v39 h38 => ?_)
      refine y_iadd (v := (v32 + v39)) d_W_arePositionsRight_236 rfl ?_
      refine y_iast d_W_arePositionsRight_237 (fun h40 => ?_)
      refine y_iinc (v := (v7_ + (J 1))) (loc2 := [some (.ref f0_), some (.int f1_), some (.ref f2_), some (.ref f3_), some (.int f4_), some (.int f5_), some (.int f6_), some (.int (v7_ + (J 1))), none]) d_W_arePositionsRight_238 rfl rfl (Nat.le_of_ble_eq_true rfl) rfl rfl ?_
      refine y_goto (tgt := 194) d_W_arePositionsRight_241 (by decide) ?_
      exact ih h40 (v7_ + (J 1))
    · refine y_jn (C := fun (j9 : mH → Option ((Int32 ⊕ Nat) × mH)) => ∀ (h42 : mH), mY l Θ d M_W_arePositionsRight 232 [some (.ref f0_), some (.int f1_), some (.ref f2_), some (.ref f3_), some (.int f4_), some (.int f5_), some (.int f6_), some (.int v7_), none] [.int v32, .int v7_, .ref f2_] h42 (tX vI) (j9 h42)) (fun h42 => ?_) (fun j41 Hj41 => ?_)
      · refine y_iconst (v := (J 0)) d_W_arePositionsRight_232 rfl ?_
        exact Hj35 h42 (J 0)
      · refine y_if_eq (tgt := 232) d_W_arePositionsRight_214 (by decide) ?_ ?_
        · exact Hj41 h33
        · refine y_aload_n d_W_arePositionsRight_217 rfl ?_
          refine y_iload d_W_arePositionsRight_218 rfl ?_
          refine y_gO (fun fs1 g1 => y_xI (c_vi (rest := [.int v32, .int v7_, .ref f2_]) d_W_arePositionsRight_220 k_F_shipAt s_W_75 (Or.inl ⟨_, _, _, g1, rfl, rfl⟩) rfl rfl (Nat.le_of_ble_eq_true rfl) (Nat.le_trans (Nat.le_of_ble_eq_true rfl : 6 + 1 ≤ 12) hD) (S_F_shipAt hfl (Nat.le_refl _) h33 f0_ v7_)) (fun v44 h43 => ?_) (fun _ _ => y_hp rfl))
          refine y_iload d_W_arePositionsRight_223 rfl ?_
          refine y_icmp_ne (tgt := 232) d_W_arePositionsRight_225 (by decide) ?_ ?_
          · exact Hj41 h43
          · refine y_iconst (v := (J 1)) d_W_arePositionsRight_228 rfl ?_
            refine y_goto (tgt := 233) d_W_arePositionsRight_229 (by decide) ?_
            exact Hj35 h43 (J 1)
theorem S_W_arePositionsRight_194 (hfl : HF l Θ) (hD : 12 ≤ d) {K244 : mH → Option ((Int32 ⊕ Nat) × mH)} {f0_ : Nat} {f1_ : Int32} {f2_ : Nat} {f3_ : Nat} {f4_ : Int32} {f5_ : Int32} {f6_ : Int32}  (hK244 : ∀ (h : mH), mY l Θ d M_W_arePositionsRight 244 [some (.ref f0_), some (.int f1_), some (.ref f2_), some (.ref f3_), some (.int f4_), some (.int f5_), none, none, none] [] h (tX vI) (K244 h)) : ∀ (n : Nat) (h : mH) (v7_ : Int32), mY l Θ d M_W_arePositionsRight 194 [some (.ref f0_), some (.int f1_), some (.ref f2_), some (.ref f3_), some (.int f4_), some (.int f5_), some (.int f6_), some (.int v7_), none] [] h (tX vI) (P_W_arePositionsRight_194 Θ N K244 f0_ f1_ f2_ f3_ f4_ f5_ f6_ n h v7_) :=
  fun n => lp_all (C := fun (rc : mH → Int32 → Option ((Int32 ⊕ Nat) × mH)) => ∀ (h : mH) (v7_ : Int32), mY l Θ d M_W_arePositionsRight 194 [some (.ref f0_), some (.int f1_), some (.ref f2_), some (.ref f3_), some (.int f4_), some (.int f5_), some (.int f6_), some (.int v7_), none] [] h (tX vI) (rc h v7_)) (fun _ _ => y_none) (fun rc ih => SB_W_arePositionsRight_194 hfl hD hK244 rc ih) n
theorem SB_W_arePositionsRight_90 (hfl : HF l Θ) (hD : 12 ≤ d) {K250 : mH → Int32 → Nat → Option ((Int32 ⊕ Nat) × mH)} {f0_ : Nat} {f2_ : Nat} {f4_ : Int32}  (hK250 : ∀ (h : mH) (v1_ : Int32) (v3_ : Nat), mY l Θ d M_W_arePositionsRight 250 [some (.ref f0_), some (.int v1_), some (.ref f2_), some (.ref v3_), some (.int f4_), none, none, none, none] [] h (tX vI) (K250 h v1_ v3_)) (rc : mH → Int32 → Nat → Int32 → Option ((Int32 ⊕ Nat) × mH)) (ih : ∀ (h : mH) (v1_ : Int32) (v3_ : Nat) (v5_ : Int32), mY l Θ d M_W_arePositionsRight 90 [some (.ref f0_), some (.int v1_), some (.ref f2_), some (.ref v3_), some (.int f4_), some (.int v5_), none, none, none] [] h (tX vI) (rc h v1_ v3_ v5_)) : ∀ (h : mH) (v1_ : Int32) (v3_ : Nat) (v5_ : Int32), mY l Θ d M_W_arePositionsRight 90 [some (.ref f0_), some (.int v1_), some (.ref f2_), some (.ref v3_), some (.int f4_), some (.int v5_), none, none, none] [] h (tX vI) (B_W_arePositionsRight_90 Θ N K250 f0_ f2_ f4_ rc h v1_ v3_ v5_) := by
  intro h v1_ v3_ v5_
  unfold B_W_arePositionsRight_90
  refine y_iload d_W_arePositionsRight_90 rfl ?_
  refine y_bipush (v := (J 60)) d_W_arePositionsRight_92 (by decide +kernel) ?_
  refine y_icmp_ge (tgt := 250) d_W_arePositionsRight_94 (by decide) ?_ ?_
  · exact y_wk (loc2 := [some (.ref f0_), some (.int v1_), some (.ref f2_), some (.ref v3_), some (.int f4_), none, none, none, none]) ⟨rfl, ⟨rfl, ⟨rfl, ⟨rfl, ⟨rfl, trivial⟩⟩⟩⟩⟩ (hK250 h v1_ v3_)
  · refine y_aload_n d_W_arePositionsRight_97 rfl ?_
    refine y_bipush (v := (J 7)) d_W_arePositionsRight_98 (by decide +kernel) ?_
    refine y_iload d_W_arePositionsRight_100 rfl ?_
    refine y_cI (c_st (rest := []) d_W_arePositionsRight_102 k_W_ask s_W_162 rfl rfl (Nat.le_of_ble_eq_true rfl) (Nat.le_trans (Nat.le_of_ble_eq_true rfl : 10 + 1 ≤ 12) hD) (S_W_ask hfl (Nat.le_refl _) h f0_ (J 7) v5_)) (fun v11 h10 => ?_)
    refine y_istore (loc2 := [some (.ref f0_), some (.int v1_), some (.ref f2_), some (.ref v3_), some (.int f4_), some (.int v5_), some (.int v11), none, none]) d_W_arePositionsRight_105 (Nat.le_of_ble_eq_true rfl) rfl rfl ?_
    refine y_iload_n d_W_arePositionsRight_107 rfl ?_
    refine y_iload d_W_arePositionsRight_108 rfl ?_
    refine y_sipush (v := (J (-2004))) d_W_arePositionsRight_110 (by decide +kernel) ?_
    refine y_jn (C := fun (j9 : mH → Int32 → Option ((Int32 ⊕ Nat) × mH)) => ∀ (h13 : mH) (s14 : Int32), mY l Θ d M_W_arePositionsRight 121 [some (.ref f0_), none, some (.ref f2_), some (.ref v3_), some (.int f4_), some (.int v5_), some (.int v11), none, none] [.int s14, .int v1_] h13 (tX vI) (j9 h13 s14)) (fun h13 s14 => ?_) (fun j12 Hj12 => ?_)
    · refine y_cI (c_st (rest := [.int v1_]) d_W_arePositionsRight_121 k_W_told s_W_36 rfl rfl (Nat.le_of_ble_eq_true rfl) (Nat.le_trans (Nat.le_of_ble_eq_true rfl : 1 + 1 ≤ 12) hD) (S_W_told hfl (Nat.le_refl _) h13 s14)) (fun v16 h15 => ?_)
      refine y_iadd (v := (v1_ + v16)) d_W_arePositionsRight_124 rfl ?_
      refine y_istore_n (loc2 := [some (.ref f0_), some (.int (v1_ + v16)), some (.ref f2_), some (.ref v3_), some (.int f4_), some (.int v5_), some (.int v11), none, none]) d_W_arePositionsRight_125 (Nat.le_of_ble_eq_true rfl) rfl rfl ?_
      refine y_new d_W_arePositionsRight_126 n_W_185 (fun q17 h18 _ _ => ?_)
      refine y_dup d_W_arePositionsRight_129 rfl ?_
      refine y_cU (c_in (rest := [.ref q17]) d_W_arePositionsRight_130 k_SB_init s_W_187 rfl rfl (Nat.le_of_ble_eq_true rfl) (Nat.le_trans (Nat.le_of_ble_eq_true rfl : 2 + 1 ≤ 12) hD) (S_SB_init hfl (Nat.le_refl _) h18 q17)) (fun v20 h19 => ?_)
      refine y_aload_n d_W_arePositionsRight_133 rfl ?_
      refine y_gO (fun fs1 g1 => y_cA (c_vi (rest := []) d_W_arePositionsRight_134 k_SB_append_o s_W_188 (Or.inl ⟨_, _, _, g1, rfl, rfl⟩) rfl rfl (Nat.le_of_ble_eq_true rfl) (Nat.le_trans (Nat.le_of_ble_eq_true rfl : 5 + 1 ≤ 12) hD) (S_SB_append_o hfl (Nat.le_refl _) h19 q17 v3_)) (fun v22 h21 => ?_))
      refine y_iload d_W_arePositionsRight_137 rfl ?_
      refine y_jn (C := fun (j9 : mH → Nat → Option ((Int32 ⊕ Nat) × mH)) => ∀ (h24 : mH) (s25 : Nat), mY l Θ d M_W_arePositionsRight 184 [some (.ref f0_), some (.int (v1_ + v16)), some (.ref f2_), none, some (.int f4_), some (.int v5_), some (.int v11), none, none] [.ref s25, .ref v22] h24 (tX vI) (j9 h24 s25)) (fun h24 s25 => ?_) (fun j23 Hj23 => ?_)
      · refine y_gO (fun fs1 g1 => y_cA (c_vi (rest := []) d_W_arePositionsRight_184 k_SB_append_o s_W_188 (Or.inl ⟨_, _, _, g1, rfl, rfl⟩) rfl rfl (Nat.le_of_ble_eq_true rfl) (Nat.le_trans (Nat.le_of_ble_eq_true rfl : 5 + 1 ≤ 12) hD) (S_SB_append_o hfl (Nat.le_refl _) h24 v22 s25)) (fun v27 h26 => ?_))
        refine y_gO (fun fs1 g1 => y_cA (c_vi (rest := []) d_W_arePositionsRight_187 k_SB_toString s_W_195 (Or.inl ⟨_, _, _, g1, rfl, rfl⟩) rfl rfl (Nat.le_of_ble_eq_true rfl) (Nat.le_trans (Nat.le_of_ble_eq_true rfl : 11 + 1 ≤ 12) hD) (S_SB_toString hfl (Nat.le_refl _) h26 v27)) (fun v29 h28 => ?_))
        refine y_astore_n (loc2 := [some (.ref f0_), some (.int (v1_ + v16)), some (.ref f2_), some (.ref v29), some (.int f4_), some (.int v5_), some (.int v11), none, none]) d_W_arePositionsRight_190 (Nat.le_of_ble_eq_true rfl) rfl rfl ?_
        refine y_iconst (v := (J 0)) d_W_arePositionsRight_191 rfl ?_
        refine y_istore (loc2 := [some (.ref f0_), some (.int (v1_ + v16)), some (.ref f2_), some (.ref v29), some (.int f4_), some (.int v5_), some (.int v11), some (.int (J 0)), none]) d_W_arePositionsRight_192 (Nat.le_of_ble_eq_true rfl) rfl rfl ?_
        refine S_W_arePositionsRight_194 hfl hD (fun h45 => ?_) N h28 (J 0)
        refine y_iinc (v := (v5_ + (J 1))) (loc2 := [some (.ref f0_), some (.int (v1_ + v16)), some (.ref f2_), some (.ref v29), some (.int f4_), some (.int (v5_ + (J 1))), none, none, none]) d_W_arePositionsRight_244 rfl rfl (Nat.le_of_ble_eq_true rfl) rfl rfl ?_
        refine y_goto (tgt := 90) d_W_arePositionsRight_247 (by decide) ?_
        exact ih h45 (v1_ + v16) v29 (v5_ + (J 1))
      · refine y_if_lt (tgt := 168) d_W_arePositionsRight_139 (by decide) ?_ ?_
        · refine y_aload_n d_W_arePositionsRight_168 rfl ?_
          refine y_iload d_W_arePositionsRight_169 rfl ?_
          refine y_gO (fun fs1 g1 => y_xI (c_vi (rest := [.ref v22]) d_W_arePositionsRight_171 k_F_hasBlock s_W_93 (Or.inl ⟨_, _, _, g1, rfl, rfl⟩) rfl rfl (Nat.le_of_ble_eq_true rfl) (Nat.le_trans (Nat.le_of_ble_eq_true rfl : 7 + 1 ≤ 12) hD) (S_F_hasBlock hfl (Nat.le_refl _) h21 f0_ v5_)) (fun v47 h46 => ?_) (fun _ _ => y_hp rfl))
          refine y_if_eq (tgt := 182) d_W_arePositionsRight_174 (by decide) ?_ ?_
          · refine y_ldcS d_W_arePositionsRight_182 (List.mem_of_getElem? (i := 41) rfl) ?_
            exact y_wk (loc2 := [some (.ref f0_), some (.int (v1_ + v16)), some (.ref f2_), none, some (.int f4_), some (.int v5_), some (.int v11), none, none]) ⟨rfl, ⟨rfl, ⟨rfl, ⟨rfl, ⟨rfl, ⟨rfl, trivial⟩⟩⟩⟩⟩⟩ (Hj23 h46 (mwad Θ 92))
          · refine y_ldcS d_W_arePositionsRight_177 (List.mem_of_getElem? (i := 40) rfl) ?_
            refine y_goto (tgt := 184) d_W_arePositionsRight_179 (by decide) ?_
            exact y_wk (loc2 := [some (.ref f0_), some (.int (v1_ + v16)), some (.ref f2_), none, some (.int f4_), some (.int v5_), some (.int v11), none, none]) ⟨rfl, ⟨rfl, ⟨rfl, ⟨rfl, ⟨rfl, ⟨rfl, trivial⟩⟩⟩⟩⟩⟩ (Hj23 h46 (mwad Θ 91))
        · refine y_new d_W_arePositionsRight_142 n_W_185 (fun q48 h49 _ _ => ?_)
          refine y_dup d_W_arePositionsRight_145 rfl ?_
          refine y_cU (c_in (rest := [.ref q48, .ref v22]) d_W_arePositionsRight_146 k_SB_init s_W_187 rfl rfl (Nat.le_of_ble_eq_true rfl) (Nat.le_trans (Nat.le_of_ble_eq_true rfl : 2 + 1 ≤ 12) hD) (S_SB_init hfl (Nat.le_refl _) h49 q48)) (fun v51 h50 => ?_)
          refine y_ldcS d_W_arePositionsRight_149 (List.mem_of_getElem? (i := 39) rfl) ?_
          refine y_gO (fun fs1 g1 => y_cA (c_vi (rest := [.ref v22]) d_W_arePositionsRight_151 k_SB_append_o s_W_188 (Or.inl ⟨_, _, _, g1, rfl, rfl⟩) rfl rfl (Nat.le_of_ble_eq_true rfl) (Nat.le_trans (Nat.le_of_ble_eq_true rfl : 5 + 1 ≤ 12) hD) (S_SB_append_o hfl (Nat.le_refl _) h50 q48 (mwad Θ 90))) (fun v53 h52 => ?_))
          refine y_iload d_W_arePositionsRight_154 rfl ?_
          refine y_bipush (v := (J 10)) d_W_arePositionsRight_156 (by decide +kernel) ?_
          refine y_irem (v := (v11 - v11 / (J 10) * (J 10))) d_W_arePositionsRight_158 (by decide +kernel) rfl ?_
          refine y_gO (fun fs1 g1 => y_cA (c_vi (rest := [.ref v22]) d_W_arePositionsRight_159 k_SB_append_I s_W_192 (Or.inl ⟨_, _, _, g1, rfl, rfl⟩) rfl rfl (Nat.le_of_ble_eq_true rfl) (Nat.le_trans (Nat.le_of_ble_eq_true rfl : 5 + 1 ≤ 12) hD) (S_SB_append_I hfl (Nat.le_refl _) h52 v53 (v11 - v11 / (J 10) * (J 10)))) (fun v55 h54 => ?_))
          refine y_gO (fun fs1 g1 => y_cA (c_vi (rest := [.ref v22]) d_W_arePositionsRight_162 k_SB_toString s_W_195 (Or.inl ⟨_, _, _, g1, rfl, rfl⟩) rfl rfl (Nat.le_of_ble_eq_true rfl) (Nat.le_trans (Nat.le_of_ble_eq_true rfl : 11 + 1 ≤ 12) hD) (S_SB_toString hfl (Nat.le_refl _) h54 v55)) (fun v57 h56 => ?_))
          refine y_goto (tgt := 184) d_W_arePositionsRight_165 (by decide) ?_
          exact y_wk (loc2 := [some (.ref f0_), some (.int (v1_ + v16)), some (.ref f2_), none, some (.int f4_), some (.int v5_), some (.int v11), none, none]) ⟨rfl, ⟨rfl, ⟨rfl, ⟨rfl, ⟨rfl, ⟨rfl, trivial⟩⟩⟩⟩⟩⟩ (Hj23 h56 v57)
    · refine y_icmp_ne (tgt := 120) d_W_arePositionsRight_113 (by decide) ?_ ?_
      · refine y_iconst (v := (J 0)) d_W_arePositionsRight_120 rfl ?_
        exact y_wk (loc2 := [some (.ref f0_), none, some (.ref f2_), some (.ref v3_), some (.int f4_), some (.int v5_), some (.int v11), none, none]) ⟨rfl, ⟨rfl, ⟨rfl, ⟨rfl, ⟨rfl, ⟨rfl, trivial⟩⟩⟩⟩⟩⟩ (Hj12 h10 (J 0))
      · refine y_iconst (v := (J 1)) d_W_arePositionsRight_116 rfl ?_
        refine y_goto (tgt := 121) d_W_arePositionsRight_117 (by decide) ?_
        exact y_wk (loc2 := [some (.ref f0_), none, some (.ref f2_), some (.ref v3_), some (.int f4_), some (.int v5_), some (.int v11), none, none]) ⟨rfl, ⟨rfl, ⟨rfl, ⟨rfl, ⟨rfl, ⟨rfl, trivial⟩⟩⟩⟩⟩⟩ (Hj12 h10 (J 1))
theorem S_W_arePositionsRight_90 (hfl : HF l Θ) (hD : 12 ≤ d) {K250 : mH → Int32 → Nat → Option ((Int32 ⊕ Nat) × mH)} {f0_ : Nat} {f2_ : Nat} {f4_ : Int32}  (hK250 : ∀ (h : mH) (v1_ : Int32) (v3_ : Nat), mY l Θ d M_W_arePositionsRight 250 [some (.ref f0_), some (.int v1_), some (.ref f2_), some (.ref v3_), some (.int f4_), none, none, none, none] [] h (tX vI) (K250 h v1_ v3_)) : ∀ (n : Nat) (h : mH) (v1_ : Int32) (v3_ : Nat) (v5_ : Int32), mY l Θ d M_W_arePositionsRight 90 [some (.ref f0_), some (.int v1_), some (.ref f2_), some (.ref v3_), some (.int f4_), some (.int v5_), none, none, none] [] h (tX vI) (P_W_arePositionsRight_90 Θ N K250 f0_ f2_ f4_ n h v1_ v3_ v5_) :=
  fun n => lp_all (C := fun (rc : mH → Int32 → Nat → Int32 → Option ((Int32 ⊕ Nat) × mH)) => ∀ (h : mH) (v1_ : Int32) (v3_ : Nat) (v5_ : Int32), mY l Θ d M_W_arePositionsRight 90 [some (.ref f0_), some (.int v1_), some (.ref f2_), some (.ref v3_), some (.int f4_), some (.int v5_), none, none, none] [] h (tX vI) (rc h v1_ v3_ v5_)) (fun _ _ _ _ => y_none) (fun rc ih => SB_W_arePositionsRight_90 hfl hD hK250 rc ih) n
theorem SB_W_arePositionsRight_253 (hfl : HF l Θ) (hD : 12 ≤ d) {K314 : mH → Int32 → Option ((Int32 ⊕ Nat) × mH)} {f0_ : Nat} {f1_ : Int32} {f2_ : Nat} {f3_ : Nat}  (hK314 : ∀ (h : mH) (v4_ : Int32), mY l Θ d M_W_arePositionsRight 314 [some (.ref f0_), some (.int f1_), none, some (.ref f3_), some (.int v4_), none, none, none, none] [] h (tX vI) (K314 h v4_)) (rc : mH → Int32 → Int32 → Option ((Int32 ⊕ Nat) × mH)) (ih : ∀ (h : mH) (v4_ : Int32) (v5_ : Int32), mY l Θ d M_W_arePositionsRight 253 [some (.ref f0_), some (.int f1_), some (.ref f2_), some (.ref f3_), some (.int v4_), some (.int v5_), none, none, none] [] h (tX vI) (rc h v4_ v5_)) : ∀ (h : mH) (v4_ : Int32) (v5_ : Int32), mY l Θ d M_W_arePositionsRight 253 [some (.ref f0_), some (.int f1_), some (.ref f2_), some (.ref f3_), some (.int v4_), some (.int v5_), none, none, none] [] h (tX vI) (B_W_arePositionsRight_253 Θ N K314 f0_ f1_ f2_ f3_ rc h v4_ v5_) := by
  intro h v4_ v5_
  unfold B_W_arePositionsRight_253
  refine y_iload d_W_arePositionsRight_253 rfl ?_
  refine y_aload_n d_W_arePositionsRight_255 rfl ?_
  refine y_gO (fun fs1 g1 => y_cI (c_vi (rest := [.int v5_]) d_W_arePositionsRight_256 k_F_shipCount s_W_135 (Or.inl ⟨_, _, _, g1, rfl, rfl⟩) rfl rfl (Nat.le_of_ble_eq_true rfl) (Nat.le_trans (Nat.le_of_ble_eq_true rfl : 1 + 1 ≤ 12) hD) (S_F_shipCount hfl (Nat.le_refl _) h f0_)) (fun v62 h61 => ?_))
  refine y_icmp_ge (tgt := 314) d_W_arePositionsRight_259 (by decide) ?_ ?_
  · exact y_wk (loc2 := [some (.ref f0_), some (.int f1_), none, some (.ref f3_), some (.int v4_), none, none, none, none]) ⟨rfl, ⟨rfl, ⟨rfl, ⟨rfl, trivial⟩⟩⟩⟩ (hK314 h61 v4_)
  · refine y_aload_n d_W_arePositionsRight_262 rfl ?_
    refine y_iload d_W_arePositionsRight_263 rfl ?_
    refine y_gO (fun fs1 g1 => y_xI (c_vi (rest := []) d_W_arePositionsRight_265 k_F_shipAt s_W_75 (Or.inl ⟨_, _, _, g1, rfl, rfl⟩) rfl rfl (Nat.le_of_ble_eq_true rfl) (Nat.le_trans (Nat.le_of_ble_eq_true rfl : 6 + 1 ≤ 12) hD) (S_F_shipAt hfl (Nat.le_refl _) h61 f0_ v5_)) (fun v64 h63 => ?_) (fun _ _ => y_hp rfl))
    refine y_istore (loc2 := [some (.ref f0_), some (.int f1_), some (.ref f2_), some (.ref f3_), some (.int v4_), some (.int v5_), some (.int v64), none, none]) d_W_arePositionsRight_268 (Nat.le_of_ble_eq_true rfl) rfl rfl ?_
    refine y_iload d_W_arePositionsRight_270 rfl ?_
    refine y_jn (C := fun (j9 : mH → Int32 → Option ((Int32 ⊕ Nat) × mH)) => ∀ (h66 : mH) (s67 : Int32), mY l Θ d M_W_arePositionsRight 306 [some (.ref f0_), some (.int f1_), some (.ref f2_), some (.ref f3_), none, some (.int v5_), none, none, none] [.int s67] h66 (tX vI) (j9 h66 s67)) (fun h66 s67 => ?_) (fun j65 Hj65 => ?_)
    · refine y_istore (loc2 := [some (.ref f0_), some (.int f1_), some (.ref f2_), some (.ref f3_), some (.int s67), some (.int v5_), none, none, none]) d_W_arePositionsRight_306 (Nat.le_of_ble_eq_true rfl) rfl rfl ?_
      refine y_iinc (v := (v5_ + (J 1))) (loc2 := [some (.ref f0_), some (.int f1_), some (.ref f2_), some (.ref f3_), some (.int s67), some (.int (v5_ + (J 1))), none, none, none]) d_W_arePositionsRight_308 rfl rfl (Nat.le_of_ble_eq_true rfl) rfl rfl ?_
      refine y_goto (tgt := 253) d_W_arePositionsRight_311 (by decide) ?_
      exact ih h66 s67 (v5_ + (J 1))
    · refine y_jn (C := fun (j9 : mH → Option ((Int32 ⊕ Nat) × mH)) => ∀ (h69 : mH), mY l Θ d M_W_arePositionsRight 305 [some (.ref f0_), some (.int f1_), some (.ref f2_), some (.ref f3_), none, some (.int v5_), none, none, none] [] h69 (tX vI) (j9 h69)) (fun h69 => ?_) (fun j68 Hj68 => ?_)
      · refine y_iconst (v := (J 0)) d_W_arePositionsRight_305 rfl ?_
        exact Hj65 h69 (J 0)
      · refine y_if_eq (tgt := 305) d_W_arePositionsRight_272 (by decide) ?_ ?_
        · exact y_wk (loc2 := [some (.ref f0_), some (.int f1_), some (.ref f2_), some (.ref f3_), none, some (.int v5_), none, none, none]) ⟨rfl, ⟨rfl, ⟨rfl, ⟨rfl, ⟨rfl, trivial⟩⟩⟩⟩⟩ (Hj68 h63)
        · refine y_aload_n d_W_arePositionsRight_275 rfl ?_
          refine y_iload d_W_arePositionsRight_276 rfl ?_
          refine y_gO (fun fs1 g1 => y_xI (c_vi (rest := []) d_W_arePositionsRight_278 k_F_blocksBeneath s_W_203 (Or.inl ⟨_, _, _, g1, rfl, rfl⟩) rfl rfl (Nat.le_of_ble_eq_true rfl) (Nat.le_trans (Nat.le_of_ble_eq_true rfl : 7 + 1 ≤ 12) hD) (S_F_blocksBeneath hfl (Nat.le_refl _) h63 f0_ v64)) (fun v71 h70 => ?_) (fun _ _ => y_hp rfl))
          refine y_aload_n d_W_arePositionsRight_281 rfl ?_
          refine y_iload d_W_arePositionsRight_282 rfl ?_
          refine y_iald d_W_arePositionsRight_284 (fun v72 => ?_)
          refine y_icmp_ne (tgt := 305) d_W_arePositionsRight_285 (by decide) ?_ ?_
          · exact y_wk (loc2 := [some (.ref f0_), some (.int f1_), some (.ref f2_), some (.ref f3_), none, some (.int v5_), none, none, none]) ⟨rfl, ⟨rfl, ⟨rfl, ⟨rfl, ⟨rfl, trivial⟩⟩⟩⟩⟩ (Hj68 h70)
          · refine y_aload_n d_W_arePositionsRight_288 rfl ?_
            refine y_iload d_W_arePositionsRight_289 rfl ?_
            refine y_gO (fun fs1 g1 => y_xI (c_vi (rest := []) d_W_arePositionsRight_291 k_F_blocksBeneathByBlocks s_W_206 (Or.inl ⟨_, _, _, g1, rfl, rfl⟩) rfl rfl (Nat.le_of_ble_eq_true rfl) (Nat.le_trans (Nat.le_of_ble_eq_true rfl : 7 + 1 ≤ 12) hD) (S_F_blocksBeneathByBlocks hfl (Nat.le_refl _) h70 f0_ v64)) (fun v74 h73 => ?_) (fun _ _ => y_hp rfl))
            refine y_aload_n d_W_arePositionsRight_294 rfl ?_
            refine y_iload d_W_arePositionsRight_295 rfl ?_
            refine y_iald d_W_arePositionsRight_297 (fun v75 => ?_)
            refine y_icmp_ne (tgt := 305) d_W_arePositionsRight_298 (by decide) ?_ ?_
            · exact y_wk (loc2 := [some (.ref f0_), some (.int f1_), some (.ref f2_), some (.ref f3_), none, some (.int v5_), none, none, none]) ⟨rfl, ⟨rfl, ⟨rfl, ⟨rfl, ⟨rfl, trivial⟩⟩⟩⟩⟩ (Hj68 h73)
            · refine y_iconst (v := (J 1)) d_W_arePositionsRight_301 rfl ?_
              refine y_goto (tgt := 306) d_W_arePositionsRight_302 (by decide) ?_
              exact y_wk (loc2 := [some (.ref f0_), some (.int f1_), some (.ref f2_), some (.ref f3_), none, some (.int v5_), none, none, none]) ⟨rfl, ⟨rfl, ⟨rfl, ⟨rfl, ⟨rfl, trivial⟩⟩⟩⟩⟩ (Hj65 h73 (J 1))
theorem S_W_arePositionsRight_253 (hfl : HF l Θ) (hD : 12 ≤ d) {K314 : mH → Int32 → Option ((Int32 ⊕ Nat) × mH)} {f0_ : Nat} {f1_ : Int32} {f2_ : Nat} {f3_ : Nat}  (hK314 : ∀ (h : mH) (v4_ : Int32), mY l Θ d M_W_arePositionsRight 314 [some (.ref f0_), some (.int f1_), none, some (.ref f3_), some (.int v4_), none, none, none, none] [] h (tX vI) (K314 h v4_)) : ∀ (n : Nat) (h : mH) (v4_ : Int32) (v5_ : Int32), mY l Θ d M_W_arePositionsRight 253 [some (.ref f0_), some (.int f1_), some (.ref f2_), some (.ref f3_), some (.int v4_), some (.int v5_), none, none, none] [] h (tX vI) (P_W_arePositionsRight_253 Θ N K314 f0_ f1_ f2_ f3_ n h v4_ v5_) :=
  fun n => lp_all (C := fun (rc : mH → Int32 → Int32 → Option ((Int32 ⊕ Nat) × mH)) => ∀ (h : mH) (v4_ : Int32) (v5_ : Int32), mY l Θ d M_W_arePositionsRight 253 [some (.ref f0_), some (.int f1_), some (.ref f2_), some (.ref f3_), some (.int v4_), some (.int v5_), none, none, none] [] h (tX vI) (rc h v4_ v5_)) (fun _ _ _ => y_none) (fun rc ih => SB_W_arePositionsRight_253 hfl hD hK314 rc ih) n
theorem SB_W_arePositionsRight_335 (hfl : HF l Θ) (hD : 12 ≤ d) {K399 : mH → Int32 → Option ((Int32 ⊕ Nat) × mH)} {f0_ : Nat} {f1_ : Int32} {f3_ : Nat} {f4_ : Int32} {f5_ : Int32}  (hK399 : ∀ (h : mH) (v6_ : Int32), mY l Θ d M_W_arePositionsRight 399 [some (.ref f0_), some (.int f1_), none, some (.ref f3_), some (.int f4_), some (.int f5_), some (.int v6_), none, none] [] h (tX vI) (K399 h v6_)) (rc : mH → Int32 → Int32 → Int32 → Option ((Int32 ⊕ Nat) × mH)) (ih : ∀ (h : mH) (v6_ : Int32) (v7_ : Int32) (v8_ : Int32), mY l Θ d M_W_arePositionsRight 335 [some (.ref f0_), some (.int f1_), none, some (.ref f3_), some (.int f4_), some (.int f5_), some (.int v6_), some (.int v7_), some (.int v8_)] [] h (tX vI) (rc h v6_ v7_ v8_)) : ∀ (h : mH) (v6_ : Int32) (v7_ : Int32) (v8_ : Int32), mY l Θ d M_W_arePositionsRight 335 [some (.ref f0_), some (.int f1_), none, some (.ref f3_), some (.int f4_), some (.int f5_), some (.int v6_), some (.int v7_), some (.int v8_)] [] h (tX vI) (B_W_arePositionsRight_335 Θ N K399 f0_ f1_ f3_ f4_ f5_ rc h v6_ v7_ v8_) := by
  intro h v6_ v7_ v8_
  unfold B_W_arePositionsRight_335
  refine y_iload d_W_arePositionsRight_335 rfl ?_
  refine y_bipush (v := (J 60)) d_W_arePositionsRight_337 (by decide +kernel) ?_
  refine y_icmp_ge (tgt := 399) d_W_arePositionsRight_339 (by decide) ?_ ?_
  · exact y_wk (loc2 := [some (.ref f0_), some (.int f1_), none, some (.ref f3_), some (.int f4_), some (.int f5_), some (.int v6_), none, none]) ⟨rfl, ⟨rfl, ⟨rfl, ⟨rfl, ⟨rfl, ⟨rfl, trivial⟩⟩⟩⟩⟩⟩ (hK399 h v6_)
  · refine y_iload d_W_arePositionsRight_342 rfl ?_
    refine y_if_ge (tgt := 399) d_W_arePositionsRight_344 (by decide) ?_ ?_
    · exact y_wk (loc2 := [some (.ref f0_), some (.int f1_), none, some (.ref f3_), some (.int f4_), some (.int f5_), some (.int v6_), none, none]) ⟨rfl, ⟨rfl, ⟨rfl, ⟨rfl, ⟨rfl, ⟨rfl, trivial⟩⟩⟩⟩⟩⟩ (hK399 h v6_)
    · refine y_aload_n d_W_arePositionsRight_347 rfl ?_
      refine y_bipush (v := (J 7)) d_W_arePositionsRight_348 (by decide +kernel) ?_
      refine y_iload d_W_arePositionsRight_350 rfl ?_
      refine y_cI (c_st (rest := []) d_W_arePositionsRight_352 k_W_ask s_W_162 rfl rfl (Nat.le_of_ble_eq_true rfl) (Nat.le_trans (Nat.le_of_ble_eq_true rfl : 10 + 1 ≤ 12) hD) (S_W_ask hfl (Nat.le_refl _) h f0_ (J 7) v8_)) (fun v79 h78 => ?_)
      refine y_sipush (v := (J (-2004))) d_W_arePositionsRight_355 (by decide +kernel) ?_
      refine y_jn (C := fun (j9 : mH → Int32 → Option ((Int32 ⊕ Nat) × mH)) => ∀ (h81 : mH) (s82 : Int32), mY l Θ d M_W_arePositionsRight 369 [some (.ref f0_), some (.int f1_), none, some (.ref f3_), some (.int f4_), some (.int f5_), none, none, some (.int v8_)] [.int s82] h81 (tX vI) (j9 h81 s82)) (fun h81 s82 => ?_) (fun j80 Hj80 => ?_)
      · refine y_istore (loc2 := [some (.ref f0_), some (.int f1_), none, some (.ref f3_), some (.int f4_), some (.int f5_), none, some (.int s82), some (.int v8_)]) d_W_arePositionsRight_369 (Nat.le_of_ble_eq_true rfl) rfl rfl ?_
        refine y_iload d_W_arePositionsRight_371 rfl ?_
        refine y_iload d_W_arePositionsRight_373 rfl ?_
        refine y_jn (C := fun (j9 : mH → Int32 → Option ((Int32 ⊕ Nat) × mH)) => ∀ (h84 : mH) (s85 : Int32), mY l Θ d M_W_arePositionsRight 391 [some (.ref f0_), some (.int f1_), none, some (.ref f3_), some (.int f4_), some (.int f5_), none, some (.int s82), some (.int v8_)] [.int s85] h84 (tX vI) (j9 h84 s85)) (fun h84 s85 => ?_) (fun j83 Hj83 => ?_)
        · refine y_istore (loc2 := [some (.ref f0_), some (.int f1_), none, some (.ref f3_), some (.int f4_), some (.int f5_), some (.int s85), some (.int s82), some (.int v8_)]) d_W_arePositionsRight_391 (Nat.le_of_ble_eq_true rfl) rfl rfl ?_
          refine y_iinc (v := (v8_ + (J 1))) (loc2 := [some (.ref f0_), some (.int f1_), none, some (.ref f3_), some (.int f4_), some (.int f5_), some (.int s85), some (.int s82), some (.int (v8_ + (J 1)))]) d_W_arePositionsRight_393 rfl rfl (Nat.le_of_ble_eq_true rfl) rfl rfl ?_
          refine y_goto (tgt := 335) d_W_arePositionsRight_396 (by decide) ?_
          exact ih h84 s85 s82 (v8_ + (J 1))
        · refine y_icmp_ne (tgt := 388) d_W_arePositionsRight_375 (by decide) ?_ ?_
          · refine y_sipush (v := (J (-2004))) d_W_arePositionsRight_388 (by decide +kernel) ?_
            exact Hj83 h81 (J (-2004))
          · refine y_iload d_W_arePositionsRight_378 rfl ?_
            refine y_iload d_W_arePositionsRight_380 rfl ?_
            refine y_isub (v := (v8_ - f5_)) d_W_arePositionsRight_382 rfl ?_
            refine y_iconst (v := (J 1)) d_W_arePositionsRight_383 rfl ?_
            refine y_iadd (v := ((v8_ - f5_) + (J 1))) d_W_arePositionsRight_384 rfl ?_
            refine y_goto (tgt := 391) d_W_arePositionsRight_385 (by decide) ?_
            exact Hj83 h81 ((v8_ - f5_) + (J 1))
      · refine y_icmp_ne (tgt := 368) d_W_arePositionsRight_358 (by decide) ?_ ?_
        · refine y_iconst (v := (J 0)) d_W_arePositionsRight_368 rfl ?_
          exact y_wk (loc2 := [some (.ref f0_), some (.int f1_), none, some (.ref f3_), some (.int f4_), some (.int f5_), none, none, some (.int v8_)]) ⟨rfl, ⟨rfl, ⟨rfl, ⟨rfl, ⟨rfl, ⟨rfl, trivial⟩⟩⟩⟩⟩⟩ (Hj80 h78 (J 0))
        · refine y_iload d_W_arePositionsRight_361 rfl ?_
          refine y_iconst (v := (J 1)) d_W_arePositionsRight_363 rfl ?_
          refine y_iadd (v := (v7_ + (J 1))) d_W_arePositionsRight_364 rfl ?_
          refine y_goto (tgt := 369) d_W_arePositionsRight_365 (by decide) ?_
          exact y_wk (loc2 := [some (.ref f0_), some (.int f1_), none, some (.ref f3_), some (.int f4_), some (.int f5_), none, none, some (.int v8_)]) ⟨rfl, ⟨rfl, ⟨rfl, ⟨rfl, ⟨rfl, ⟨rfl, trivial⟩⟩⟩⟩⟩⟩ (Hj80 h78 (v7_ + (J 1)))
theorem S_W_arePositionsRight_335 (hfl : HF l Θ) (hD : 12 ≤ d) {K399 : mH → Int32 → Option ((Int32 ⊕ Nat) × mH)} {f0_ : Nat} {f1_ : Int32} {f3_ : Nat} {f4_ : Int32} {f5_ : Int32}  (hK399 : ∀ (h : mH) (v6_ : Int32), mY l Θ d M_W_arePositionsRight 399 [some (.ref f0_), some (.int f1_), none, some (.ref f3_), some (.int f4_), some (.int f5_), some (.int v6_), none, none] [] h (tX vI) (K399 h v6_)) : ∀ (n : Nat) (h : mH) (v6_ : Int32) (v7_ : Int32) (v8_ : Int32), mY l Θ d M_W_arePositionsRight 335 [some (.ref f0_), some (.int f1_), none, some (.ref f3_), some (.int f4_), some (.int f5_), some (.int v6_), some (.int v7_), some (.int v8_)] [] h (tX vI) (P_W_arePositionsRight_335 Θ N K399 f0_ f1_ f3_ f4_ f5_ n h v6_ v7_ v8_) :=
  fun n => lp_all (C := fun (rc : mH → Int32 → Int32 → Int32 → Option ((Int32 ⊕ Nat) × mH)) => ∀ (h : mH) (v6_ : Int32) (v7_ : Int32) (v8_ : Int32), mY l Θ d M_W_arePositionsRight 335 [some (.ref f0_), some (.int f1_), none, some (.ref f3_), some (.int f4_), some (.int f5_), some (.int v6_), some (.int v7_), some (.int v8_)] [] h (tX vI) (rc h v6_ v7_ v8_)) (fun _ _ _ _ => y_none) (fun rc ih => SB_W_arePositionsRight_335 hfl hD hK399 rc ih) n
theorem SB_W_arePositionsRight_317 (hfl : HF l Θ) (hD : 12 ≤ d) {K443 : mH → Int32 → Option ((Int32 ⊕ Nat) × mH)} {f0_ : Nat} {f1_ : Int32} {f3_ : Nat}  (hK443 : ∀ (h : mH) (v4_ : Int32), mY l Θ d M_W_arePositionsRight 443 [some (.ref f0_), some (.int f1_), none, some (.ref f3_), some (.int v4_), none, none, none, none] [] h (tX vI) (K443 h v4_)) (rc : mH → Int32 → Int32 → Option ((Int32 ⊕ Nat) × mH)) (ih : ∀ (h : mH) (v4_ : Int32) (v5_ : Int32), mY l Θ d M_W_arePositionsRight 317 [some (.ref f0_), some (.int f1_), none, some (.ref f3_), some (.int v4_), some (.int v5_), none, none, none] [] h (tX vI) (rc h v4_ v5_)) : ∀ (h : mH) (v4_ : Int32) (v5_ : Int32), mY l Θ d M_W_arePositionsRight 317 [some (.ref f0_), some (.int f1_), none, some (.ref f3_), some (.int v4_), some (.int v5_), none, none, none] [] h (tX vI) (B_W_arePositionsRight_317 Θ N K443 f0_ f1_ f3_ rc h v4_ v5_) := by
  intro h v4_ v5_
  unfold B_W_arePositionsRight_317
  refine y_iload d_W_arePositionsRight_317 rfl ?_
  refine y_bipush (v := (J 61)) d_W_arePositionsRight_319 (by decide +kernel) ?_
  refine y_icmp_ge (tgt := 443) d_W_arePositionsRight_321 (by decide) ?_ ?_
  · exact y_wk (loc2 := [some (.ref f0_), some (.int f1_), none, some (.ref f3_), some (.int v4_), none, none, none, none]) ⟨rfl, ⟨rfl, ⟨rfl, ⟨rfl, trivial⟩⟩⟩⟩ (hK443 h v4_)
  · refine y_sipush (v := (J (-2004))) d_W_arePositionsRight_324 (by decide +kernel) ?_
    refine y_istore (loc2 := [some (.ref f0_), some (.int f1_), none, some (.ref f3_), some (.int v4_), some (.int v5_), some (.int (J (-2004))), none, none]) d_W_arePositionsRight_327 (Nat.le_of_ble_eq_true rfl) rfl rfl ?_
    refine y_iconst (v := (J 0)) d_W_arePositionsRight_329 rfl ?_
    refine y_istore (loc2 := [some (.ref f0_), some (.int f1_), none, some (.ref f3_), some (.int v4_), some (.int v5_), some (.int (J (-2004))), some (.int (J 0)), none]) d_W_arePositionsRight_330 (Nat.le_of_ble_eq_true rfl) rfl rfl ?_
    refine y_iconst (v := (J 0)) d_W_arePositionsRight_332 rfl ?_
    refine y_istore (loc2 := [some (.ref f0_), some (.int f1_), none, some (.ref f3_), some (.int v4_), some (.int v5_), some (.int (J (-2004))), some (.int (J 0)), some (.int (J 0))]) d_W_arePositionsRight_333 (Nat.le_of_ble_eq_true rfl) rfl rfl ?_
    refine S_W_arePositionsRight_335 hfl hD (fun h86 u87 => ?_) N h (J (-2004)) (J 0) (J 0)
    refine y_iload d_W_arePositionsRight_399 rfl ?_
    refine y_jn (C := fun (j9 : mH → Int32 → Option ((Int32 ⊕ Nat) × mH)) => ∀ (h89 : mH) (s90 : Int32), mY l Θ d M_W_arePositionsRight 435 [some (.ref f0_), some (.int f1_), none, some (.ref f3_), none, some (.int v5_), none, none, none] [.int s90] h89 (tX vI) (j9 h89 s90)) (fun h89 s90 => ?_) (fun j88 Hj88 => ?_)
    · refine y_istore (loc2 := [some (.ref f0_), some (.int f1_), none, some (.ref f3_), some (.int s90), some (.int v5_), none, none, none]) d_W_arePositionsRight_435 (Nat.le_of_ble_eq_true rfl) rfl rfl ?_
      refine y_iinc (v := (v5_ + (J 1))) (loc2 := [some (.ref f0_), some (.int f1_), none, some (.ref f3_), some (.int s90), some (.int (v5_ + (J 1))), none, none, none]) d_W_arePositionsRight_437 rfl rfl (Nat.le_of_ble_eq_true rfl) rfl rfl ?_
      refine y_goto (tgt := 317) d_W_arePositionsRight_440 (by decide) ?_
      exact ih h89 s90 (v5_ + (J 1))
    · refine y_jn (C := fun (j9 : mH → Option ((Int32 ⊕ Nat) × mH)) => ∀ (h92 : mH), mY l Θ d M_W_arePositionsRight 434 [some (.ref f0_), some (.int f1_), none, some (.ref f3_), none, some (.int v5_), none, none, none] [] h92 (tX vI) (j9 h92)) (fun h92 => ?_) (fun j91 Hj91 => ?_)
      · refine y_iconst (v := (J 0)) d_W_arePositionsRight_434 rfl ?_
        exact Hj88 h92 (J 0)
      · refine y_if_eq (tgt := 434) d_W_arePositionsRight_401 (by decide) ?_ ?_
        · exact y_wk (loc2 := [some (.ref f0_), some (.int f1_), none, some (.ref f3_), none, some (.int v5_), none, none, none]) ⟨rfl, ⟨rfl, ⟨rfl, ⟨rfl, trivial⟩⟩⟩⟩ (Hj91 h86)
        · refine y_aload_n d_W_arePositionsRight_404 rfl ?_
          refine y_bipush (v := (J 8)) d_W_arePositionsRight_405 (by decide +kernel) ?_
          refine y_iload d_W_arePositionsRight_407 rfl ?_
          refine y_cI (c_st (rest := []) d_W_arePositionsRight_409 k_W_ask s_W_162 rfl rfl (Nat.le_of_ble_eq_true rfl) (Nat.le_trans (Nat.le_of_ble_eq_true rfl : 10 + 1 ≤ 12) hD) (S_W_ask hfl (Nat.le_refl _) h86 f0_ (J 8) v5_)) (fun v94 h93 => ?_)
          refine y_iload d_W_arePositionsRight_412 rfl ?_
          refine y_icmp_ne (tgt := 434) d_W_arePositionsRight_414 (by decide) ?_ ?_
          · exact y_wk (loc2 := [some (.ref f0_), some (.int f1_), none, some (.ref f3_), none, some (.int v5_), none, none, none]) ⟨rfl, ⟨rfl, ⟨rfl, ⟨rfl, trivial⟩⟩⟩⟩ (Hj91 h93)
          · refine y_aload_n d_W_arePositionsRight_417 rfl ?_
            refine y_bipush (v := (J 9)) d_W_arePositionsRight_418 (by decide +kernel) ?_
            refine y_iload d_W_arePositionsRight_420 rfl ?_
            refine y_cI (c_st (rest := []) d_W_arePositionsRight_422 k_W_ask s_W_162 rfl rfl (Nat.le_of_ble_eq_true rfl) (Nat.le_trans (Nat.le_of_ble_eq_true rfl : 10 + 1 ≤ 12) hD) (S_W_ask hfl (Nat.le_refl _) h93 f0_ (J 9) v5_)) (fun v96 h95 => ?_)
            refine y_iload d_W_arePositionsRight_425 rfl ?_
            refine y_icmp_ne (tgt := 434) d_W_arePositionsRight_427 (by decide) ?_ ?_
            · exact y_wk (loc2 := [some (.ref f0_), some (.int f1_), none, some (.ref f3_), none, some (.int v5_), none, none, none]) ⟨rfl, ⟨rfl, ⟨rfl, ⟨rfl, trivial⟩⟩⟩⟩ (Hj91 h95)
            · refine y_iconst (v := (J 1)) d_W_arePositionsRight_430 rfl ?_
              refine y_goto (tgt := 435) d_W_arePositionsRight_431 (by decide) ?_
              exact y_wk (loc2 := [some (.ref f0_), some (.int f1_), none, some (.ref f3_), none, some (.int v5_), none, none, none]) ⟨rfl, ⟨rfl, ⟨rfl, ⟨rfl, trivial⟩⟩⟩⟩ (Hj88 h95 (J 1))
theorem S_W_arePositionsRight_317 (hfl : HF l Θ) (hD : 12 ≤ d) {K443 : mH → Int32 → Option ((Int32 ⊕ Nat) × mH)} {f0_ : Nat} {f1_ : Int32} {f3_ : Nat}  (hK443 : ∀ (h : mH) (v4_ : Int32), mY l Θ d M_W_arePositionsRight 443 [some (.ref f0_), some (.int f1_), none, some (.ref f3_), some (.int v4_), none, none, none, none] [] h (tX vI) (K443 h v4_)) : ∀ (n : Nat) (h : mH) (v4_ : Int32) (v5_ : Int32), mY l Θ d M_W_arePositionsRight 317 [some (.ref f0_), some (.int f1_), none, some (.ref f3_), some (.int v4_), some (.int v5_), none, none, none] [] h (tX vI) (P_W_arePositionsRight_317 Θ N K443 f0_ f1_ f3_ n h v4_ v5_) :=
  fun n => lp_all (C := fun (rc : mH → Int32 → Int32 → Option ((Int32 ⊕ Nat) × mH)) => ∀ (h : mH) (v4_ : Int32) (v5_ : Int32), mY l Θ d M_W_arePositionsRight 317 [some (.ref f0_), some (.int f1_), none, some (.ref f3_), some (.int v4_), some (.int v5_), none, none, none] [] h (tX vI) (rc h v4_ v5_)) (fun _ _ _ => y_none) (fun rc ih => SB_W_arePositionsRight_317 hfl hD hK443 rc ih) n
theorem S_W_arePositionsRight (hfl : HF l Θ) (hD : 12 ≤ d) (h : mH) (a0 : Nat) : mMs l Θ d M_W_arePositionsRight [.ref a0] h (tX vI) (P_W_arePositionsRight Θ N h a0) := by
  refine mMs.of hfl (by decide +kernel) rfl (Nat.le_of_ble_eq_true rfl) (loc := [some (.ref a0), none, none, none, none, none, none, none, none]) rfl ?_
  unfold P_W_arePositionsRight
  refine y_iconst (v := (J 0)) d_W_arePositionsRight_0 rfl ?_
  refine y_istore_n (loc2 := [some (.ref a0), some (.int (J 0)), none, none, none, none, none, none, none]) d_W_arePositionsRight_1 (Nat.le_of_ble_eq_true rfl) rfl rfl ?_
  refine y_aload_n d_W_arePositionsRight_2 rfl ?_
  refine y_gO (fun fs1 g1 => y_cI (c_vi (rest := []) d_W_arePositionsRight_3 k_F_shipCount s_W_135 (Or.inl ⟨_, _, _, g1, rfl, rfl⟩) rfl rfl (Nat.le_of_ble_eq_true rfl) (Nat.le_trans (Nat.le_of_ble_eq_true rfl : 1 + 1 ≤ 12) hD) (S_F_shipCount hfl (Nat.le_refl _) h a0)) (fun v2 h1 => ?_))
  refine y_newarr (ty := .int) (a0 := fun n => (n, .inl (fun _ => 0))) d_W_arePositionsRight_6 rfl (fun _ => rfl) (mG (1, 144) (by decide +kernel)) (fun _ _ => rfl) (fun _ => rfl) rfl (fun q3 h4 => ?_)
  refine y_astore_n (loc2 := [some (.ref a0), some (.int (J 0)), some (.ref q3), none, none, none, none, none, none]) d_W_arePositionsRight_8 (Nat.le_of_ble_eq_true rfl) rfl rfl ?_
  refine y_ldcS d_W_arePositionsRight_9 (List.mem_of_getElem? (i := 39) rfl) ?_
  refine y_astore_n (loc2 := [some (.ref a0), some (.int (J 0)), some (.ref q3), some (.ref (mwad Θ 90)), none, none, none, none, none]) d_W_arePositionsRight_11 (Nat.le_of_ble_eq_true rfl) rfl rfl ?_
  refine y_aload_n d_W_arePositionsRight_12 rfl ?_
  refine y_bipush (v := (J 6)) d_W_arePositionsRight_13 (by decide +kernel) ?_
  refine y_bipush (v := (J 60)) d_W_arePositionsRight_15 (by decide +kernel) ?_
  refine y_cI (c_st (rest := []) d_W_arePositionsRight_17 k_W_ask s_W_162 rfl rfl (Nat.le_of_ble_eq_true rfl) (Nat.le_trans (Nat.le_of_ble_eq_true rfl : 10 + 1 ≤ 12) hD) (S_W_ask hfl (Nat.le_refl _) h4 a0 (J 6) (J 60))) (fun v6 h5 => ?_)
  refine y_sipush (v := (J (-2003))) d_W_arePositionsRight_20 (by decide +kernel) ?_
  refine y_jn (C := fun (j9 : mH → Int32 → Option ((Int32 ⊕ Nat) × mH)) => ∀ (h8 : mH) (s9 : Int32), mY l Θ d M_W_arePositionsRight 85 [some (.ref a0), some (.int (J 0)), some (.ref q3), some (.ref (mwad Θ 90)), none, none, none, none, none] [.int s9] h8 (tX vI) (j9 h8 s9)) (fun h8 s9 => ?_) (fun j7 Hj7 => ?_)
  · refine y_istore (loc2 := [some (.ref a0), some (.int (J 0)), some (.ref q3), some (.ref (mwad Θ 90)), some (.int s9), none, none, none, none]) d_W_arePositionsRight_85 (Nat.le_of_ble_eq_true rfl) rfl rfl ?_
    refine y_iconst (v := (J 0)) d_W_arePositionsRight_87 rfl ?_
    refine y_istore (loc2 := [some (.ref a0), some (.int (J 0)), some (.ref q3), some (.ref (mwad Θ 90)), some (.int s9), some (.int (J 0)), none, none, none]) d_W_arePositionsRight_88 (Nat.le_of_ble_eq_true rfl) rfl rfl ?_
    refine S_W_arePositionsRight_90 hfl hD (fun h58 u59 u60 => ?_) N h8 (J 0) (mwad Θ 90) (J 0)
    refine y_iconst (v := (J 0)) d_W_arePositionsRight_250 rfl ?_
    refine y_istore (loc2 := [some (.ref a0), some (.int u59), some (.ref q3), some (.ref u60), some (.int s9), some (.int (J 0)), none, none, none]) d_W_arePositionsRight_251 (Nat.le_of_ble_eq_true rfl) rfl rfl ?_
    refine S_W_arePositionsRight_253 hfl hD (fun h76 u77 => ?_) N h58 s9 (J 0)
    refine y_iconst (v := (J 1)) d_W_arePositionsRight_314 rfl ?_
    refine y_istore (loc2 := [some (.ref a0), some (.int u59), none, some (.ref u60), some (.int u77), some (.int (J 1)), none, none, none]) d_W_arePositionsRight_315 (Nat.le_of_ble_eq_true rfl) rfl rfl ?_
    refine S_W_arePositionsRight_317 hfl hD (fun h97 u98 => ?_) N h76 u77 (J 1)
    refine y_iload d_W_arePositionsRight_443 rfl ?_
    refine y_if_eq (tgt := 488) d_W_arePositionsRight_445 (by decide) ?_ ?_
    · refine y_iconst (v := (J 0)) d_W_arePositionsRight_488 rfl ?_
      exact y_retIX d_W_arePositionsRight_489 rfl (by decide +kernel)
    · refine y_aload_n d_W_arePositionsRight_448 rfl ?_
      refine y_gO (fun fs1 g1 => y_cI (c_vi (rest := []) d_W_arePositionsRight_449 k_F_freeMetres s_W_209 (Or.inl ⟨_, _, _, g1, rfl, rfl⟩) rfl rfl (Nat.le_of_ble_eq_true rfl) (Nat.le_trans (Nat.le_of_ble_eq_true rfl : 3 + 1 ≤ 12) hD) (S_F_freeMetres hfl (Nat.le_refl _) h97 a0)) (fun v100 h99 => ?_))
      refine y_iload_n d_W_arePositionsRight_452 rfl ?_
      refine y_icmp_ne (tgt := 488) d_W_arePositionsRight_453 (by decide) ?_ ?_
      · refine y_iconst (v := (J 0)) d_W_arePositionsRight_488 rfl ?_
        exact y_retIX d_W_arePositionsRight_489 rfl (by decide +kernel)
      · refine y_aload_n d_W_arePositionsRight_456 rfl ?_
        refine y_gO (fun fs1 g1 => y_cF (c_vi (rest := []) d_W_arePositionsRight_457 k_F_takenShare s_W_212 (Or.inl ⟨_, _, _, g1, rfl, rfl⟩) rfl rfl (Nat.le_of_ble_eq_true rfl) (Nat.le_trans (Nat.le_of_ble_eq_true rfl : 3 + 1 ≤ 12) hD) (S_F_takenShare hfl (Nat.le_refl _) h99 a0)) (fun v102 h101 => ?_))
        refine y_bipush (v := (J 60)) d_W_arePositionsRight_460 (by decide +kernel) ?_
        refine y_iload_n d_W_arePositionsRight_462 rfl ?_
        refine y_isub (v := ((J 60) - u59)) d_W_arePositionsRight_463 rfl ?_
        refine y_i2f d_W_arePositionsRight_464 ?_
        refine y_ldcf d_W_arePositionsRight_465 l_W_216 ?_
        refine y_gd (fun hn => y_fdiv d_W_arePositionsRight_467 hn ?_)
        refine y_fcmp (v := (Op.cmpValue (FP.fcmp v102 (FP.fdiv (FP.i2f ((J 60) - u59)) (1114636288 : UInt32))) .l)) d_W_arePositionsRight_468 rfl ?_
        refine y_if_ne (tgt := 488) d_W_arePositionsRight_469 (by decide) ?_ ?_
        · refine y_iconst (v := (J 0)) d_W_arePositionsRight_488 rfl ?_
          exact y_retIX d_W_arePositionsRight_489 rfl (by decide +kernel)
        · refine y_aload_n d_W_arePositionsRight_472 rfl ?_
          refine y_aload_n d_W_arePositionsRight_473 rfl ?_
          refine y_gO (fun fs1 g1 => y_cI (c_vi (rest := [.ref a0]) d_W_arePositionsRight_474 k_F_describeDock s_W_217 (Or.inl ⟨_, _, _, g1, rfl, rfl⟩) rfl rfl (Nat.le_of_ble_eq_true rfl) (Nat.le_trans (Nat.le_of_ble_eq_true rfl : 6 + 1 ≤ 12) hD) (S_F_describeDock hfl (Nat.le_refl _) h101 a0)) (fun v104 h103 => ?_))
          refine y_aload_n d_W_arePositionsRight_477 rfl ?_
          refine y_xI (c_st (rest := []) d_W_arePositionsRight_478 k_W_isLine s_W_220 rfl rfl (Nat.le_of_ble_eq_true rfl) (Nat.le_trans (Nat.le_of_ble_eq_true rfl : 7 + 1 ≤ 12) hD) (S_W_isLine hfl (Nat.le_refl _) h103 a0 v104 u60)) (fun v106 h105 => ?_) (fun _ _ => y_hp rfl)
          refine y_if_eq (tgt := 488) d_W_arePositionsRight_481 (by decide) ?_ ?_
          · refine y_iconst (v := (J 0)) d_W_arePositionsRight_488 rfl ?_
            exact y_retIX d_W_arePositionsRight_489 rfl (by decide +kernel)
          · refine y_iconst (v := (J 1)) d_W_arePositionsRight_484 rfl ?_
            refine y_goto (tgt := 489) d_W_arePositionsRight_485 (by decide) ?_
            exact y_retIX d_W_arePositionsRight_489 rfl (by decide +kernel)
  · refine y_jn (C := fun (j9 : mH → Option ((Int32 ⊕ Nat) × mH)) => ∀ (h108 : mH), mY l Θ d M_W_arePositionsRight 84 [some (.ref a0), some (.int (J 0)), some (.ref q3), some (.ref (mwad Θ 90)), none, none, none, none, none] [] h108 (tX vI) (j9 h108)) (fun h108 => ?_) (fun j107 Hj107 => ?_)
    · refine y_iconst (v := (J 0)) d_W_arePositionsRight_84 rfl ?_
      exact Hj7 h108 (J 0)
    · refine y_icmp_ne (tgt := 84) d_W_arePositionsRight_23 (by decide) ?_ ?_
      · exact Hj107 h5
      · refine y_aload_n d_W_arePositionsRight_26 rfl ?_
        refine y_bipush (v := (J 7)) d_W_arePositionsRight_27 (by decide +kernel) ?_
        refine y_iconst (v := (J (-1))) d_W_arePositionsRight_29 rfl ?_
        refine y_cI (c_st (rest := []) d_W_arePositionsRight_30 k_W_ask s_W_162 rfl rfl (Nat.le_of_ble_eq_true rfl) (Nat.le_trans (Nat.le_of_ble_eq_true rfl : 10 + 1 ≤ 12) hD) (S_W_ask hfl (Nat.le_refl _) h5 a0 (J 7) (J (-1)))) (fun v110 h109 => ?_)
        refine y_sipush (v := (J (-2003))) d_W_arePositionsRight_33 (by decide +kernel) ?_
        refine y_icmp_ne (tgt := 84) d_W_arePositionsRight_36 (by decide) ?_ ?_
        · exact Hj107 h109
        · refine y_aload_n d_W_arePositionsRight_39 rfl ?_
          refine y_bipush (v := (J 8)) d_W_arePositionsRight_40 (by decide +kernel) ?_
          refine y_iconst (v := (J 0)) d_W_arePositionsRight_42 rfl ?_
          refine y_cI (c_st (rest := []) d_W_arePositionsRight_43 k_W_ask s_W_162 rfl rfl (Nat.le_of_ble_eq_true rfl) (Nat.le_trans (Nat.le_of_ble_eq_true rfl : 10 + 1 ≤ 12) hD) (S_W_ask hfl (Nat.le_refl _) h109 a0 (J 8) (J 0))) (fun v112 h111 => ?_)
          refine y_sipush (v := (J (-2003))) d_W_arePositionsRight_46 (by decide +kernel) ?_
          refine y_icmp_ne (tgt := 84) d_W_arePositionsRight_49 (by decide) ?_ ?_
          · exact Hj107 h111
          · refine y_aload_n d_W_arePositionsRight_52 rfl ?_
            refine y_bipush (v := (J 8)) d_W_arePositionsRight_53 (by decide +kernel) ?_
            refine y_bipush (v := (J 61)) d_W_arePositionsRight_55 (by decide +kernel) ?_
            refine y_cI (c_st (rest := []) d_W_arePositionsRight_57 k_W_ask s_W_162 rfl rfl (Nat.le_of_ble_eq_true rfl) (Nat.le_trans (Nat.le_of_ble_eq_true rfl : 10 + 1 ≤ 12) hD) (S_W_ask hfl (Nat.le_refl _) h111 a0 (J 8) (J 61))) (fun v114 h113 => ?_)
            refine y_sipush (v := (J (-2003))) d_W_arePositionsRight_60 (by decide +kernel) ?_
            refine y_icmp_ne (tgt := 84) d_W_arePositionsRight_63 (by decide) ?_ ?_
            · exact Hj107 h113
            · refine y_aload_n d_W_arePositionsRight_66 rfl ?_
              refine y_bipush (v := (J 9)) d_W_arePositionsRight_67 (by decide +kernel) ?_
              refine y_bipush (v := (J 61)) d_W_arePositionsRight_69 (by decide +kernel) ?_
              refine y_cI (c_st (rest := []) d_W_arePositionsRight_71 k_W_ask s_W_162 rfl rfl (Nat.le_of_ble_eq_true rfl) (Nat.le_trans (Nat.le_of_ble_eq_true rfl : 10 + 1 ≤ 12) hD) (S_W_ask hfl (Nat.le_refl _) h113 a0 (J 9) (J 61))) (fun v116 h115 => ?_)
              refine y_sipush (v := (J (-2003))) d_W_arePositionsRight_74 (by decide +kernel) ?_
              refine y_icmp_ne (tgt := 84) d_W_arePositionsRight_77 (by decide) ?_ ?_
              · exact Hj107 h115
              · refine y_iconst (v := (J 1)) d_W_arePositionsRight_80 rfl ?_
                refine y_goto (tgt := 85) d_W_arePositionsRight_81 (by decide) ?_
                exact Hj7 h115 (J 1)
noncomputable def B_W_areShipsRight_100 (Θ : mW) (N : Nat) (K374 : mH → Int32 → Int32 → Int32 → Option ((Int32 ⊕ Nat) × mH)) (f0_ : Nat) (f1_ : Int32) (rc : mH → Int32 → Int32 → Int32 → Int32 → Option ((Int32 ⊕ Nat) × mH)) (h : mH) (v2_ : Int32) (v3_ : Int32) (v4_ : Int32) (v5_ : Int32) : Option ((Int32 ⊕ Nat) × mH) :=
  (if f1_ ≤ v5_ then (K374 h v2_ v3_ v4_) else (gO Θ h 0 f0_ (bx (P_F_shipAt Θ N h f0_ v5_) (fun v7 h6 => (bc (P_W_ask Θ N h6 f0_ (J 1) v7) (fun v9 h8 => (gO Θ h8 0 f0_ (bx (P_F_billOf Θ N h8 f0_ v7) (fun v11 h10 => (gO Θ h10 0 f0_ (bx (P_F_dirtOf Θ N h10 f0_ v7) (fun v13 h12 => (jn (fun (h15 : mH) (s16 : Nat) => (al Θ h15 (oB 8 [.null, .int 0, .int 0, .int 0]) (fun q17 h18 => (bc (P_SB_init Θ N h18 q17) (fun v20 h19 => (gO Θ h19 8 q17 (bc (P_SB_append_o Θ N h19 q17 (mwad Θ 95)) (fun v22 h21 => (gO Θ h21 8 v22 (bc (P_SB_append_I Θ N h21 v22 v7) (fun v24 h23 => (gO Θ h23 8 v24 (bc (P_SB_append_o Θ N h23 v24 (mwad Θ 96)) (fun v26 h25 => (gO Θ h25 0 f0_ (bx (P_F_billOf Θ N h25 f0_ v7) (fun v28 h27 => (gO Θ h27 8 v26 (bc (P_SB_append_I Θ N h27 v26 v28) (fun v30 h29 => (gO Θ h29 8 v30 (bc (P_SB_append_o Θ N h29 v30 (mwad Θ 97)) (fun v32 h31 => (gO Θ h31 0 f0_ (bx (P_F_dirtOf Θ N h31 f0_ v7) (fun v34 h33 => (gO Θ h33 8 v32 (bc (P_SB_append_I Θ N h33 v32 v34) (fun v36 h35 => (gO Θ h35 0 f0_ (bx (P_F_damageOf Θ N h35 f0_ v7) (fun v38 h37 => (jn (fun (h40 : mH) (s41 : Nat) => (gO Θ h40 8 v36 (bc (P_SB_append_o Θ N h40 v36 s41) (fun v43 h42 => (gO Θ h42 8 v43 (bc (P_SB_append_o Θ N h42 v43 s16) (fun v45 h44 => (gO Θ h44 8 v45 (bc (P_SB_toString Θ N h44 v45) (fun v47 h46 => (jn (fun (h49 : mH) (s50 : Int32) => (rc h49 (v2_ + v11) (v3_ + v13) s50 (v5_ + (J 1)))) (fun j48 => (jn (fun (h52 : mH) => (j48 h52 (J 0))) (fun j51 => (if v4_ = 0 then (j51 h46) else (gO Θ h46 0 f0_ (bx (P_F_isInDock Θ N h46 f0_ v7) (fun v54 h53 => (jn (fun (h56 : mH) (s57 : Int32) => (if v54 = s57 then (jn (fun (h59 : mH) => (jn (fun (h61 : mH) => (gO Θ h61 0 f0_ (bx (P_F_describeBill Θ N h61 f0_ v7) (fun v63 h62 => (bx (P_W_isLine Θ N h62 f0_ v63 v47) (fun v65 h64 => (if v65 = 0 then (j51 h64) else (j48 h64 (J 1)))) (fun n9 h9 => xp n9 h9))) (fun n9 h9 => xp n9 h9)))) (fun j60 => (if v5_ = 0 then (j60 h59) else (gO Θ h59 0 f0_ (bx (P_F_shipAt Θ N h59 f0_ (v5_ - (J 1))) (fun v67 h66 => (if v7 ≤ v67 then (j51 h66) else (j60 h66))) (fun n9 h9 => xp n9 h9))))))) (fun j58 => (if 0 ≤ v9 then (gO Θ h56 0 f0_ (bx (P_F_shipAtPosition Θ N h56 f0_ v9) (fun v69 h68 => (if v69 = v7 then (j58 h68) else (j51 h68))) (fun n9 h9 => xp n9 h9))) else (if v9 = (J (-2005)) then (gO Θ h56 0 f0_ (bx (P_F_isAfloat Θ N h56 f0_ v7) (fun v71 h70 => (if v71 = 0 then (j51 h70) else (j58 h70))) (fun n9 h9 => xp n9 h9))) else (j51 h56))))) else (j51 h56))) (fun j55 => (if v9 < 0 then (j55 h53 (J 0)) else (j55 h53 (J 1)))))) (fun n9 h9 => xp n9 h9)))))))))))))))))) (fun j39 => (if v38 = 0 then (j39 h37 (mwad Θ 90)) else (al Θ h37 (oB 8 [.null, .int 0, .int 0, .int 0]) (fun q72 h73 => (bc (P_SB_init Θ N h73 q72) (fun v75 h74 => (gO Θ h74 8 q72 (bc (P_SB_append_o Θ N h74 q72 (mwad Θ 98)) (fun v77 h76 => (gO Θ h76 0 f0_ (bx (P_F_damageOf Θ N h76 f0_ v7) (fun v79 h78 => (gO Θ h78 8 v77 (bc (P_SB_append_I Θ N h78 v77 v79) (fun v81 h80 => (gO Θ h80 8 v81 (bc (P_SB_toString Θ N h80 v81) (fun v83 h82 => (j39 h82 v83)))))))) (fun n9 h9 => xp n9 h9)))))))))))))) (fun n9 h9 => xp n9 h9))))))) (fun n9 h9 => xp n9 h9)))))))))) (fun n9 h9 => xp n9 h9))))))))))))))))) (fun j14 => (if v9 = (J (-2005)) then (j14 h12 (mwad Θ 90)) else (gO Θ h12 0 f0_ (bx (P_F_isAfloat Θ N h12 f0_ v7) (fun v85 h84 => (if v85 = 0 then (j14 h84 (mwad Θ 94)) else (j14 h84 (mwad Θ 93)))) (fun n9 h9 => xp n9 h9))))))) (fun n9 h9 => xp n9 h9)))) (fun n9 h9 => xp n9 h9)))))) (fun n9 h9 => xp n9 h9))))
noncomputable def P_W_areShipsRight_100 (Θ : mW) (N : Nat) (K374 : mH → Int32 → Int32 → Int32 → Option ((Int32 ⊕ Nat) × mH)) (f0_ : Nat) (f1_ : Int32) : Nat → mH → Int32 → Int32 → Int32 → Int32 → Option ((Int32 ⊕ Nat) × mH) :=
  lp (fun _ _ _ _ _ => none) (B_W_areShipsRight_100 Θ N K374 f0_ f1_)
noncomputable def B_W_areShipsRight_377 (Θ : mW) (N : Nat) (K478 : mH → Int32 → Option ((Int32 ⊕ Nat) × mH)) (f0_ : Nat) (f1_ : Int32) (f2_ : Int32) (f3_ : Int32) (rc : mH → Int32 → Int32 → Option ((Int32 ⊕ Nat) × mH)) (h : mH) (v4_ : Int32) (v5_ : Int32) : Option ((Int32 ⊕ Nat) × mH) :=
  (if f1_ ≤ (v5_ + (J 1)) then (K478 h v4_) else (gO Θ h 0 f0_ (bx (P_F_shipAtRank Θ N h f0_ v5_) (fun v91 h90 => (gO Θ h90 0 f0_ (bx (P_F_shipAtRank Θ N h90 f0_ (v5_ + (J 1))) (fun v93 h92 => (gO Θ h92 0 f0_ (bx (P_F_billOf Θ N h92 f0_ v91) (fun v95 h94 => (gO Θ h94 0 f0_ (bx (P_F_billOf Θ N h94 f0_ v93) (fun v97 h96 => (gO Θ h96 0 f0_ (bx (P_F_dirtOf Θ N h96 f0_ v91) (fun v99 h98 => (gO Θ h98 0 f0_ (bx (P_F_dirtOf Θ N h98 f0_ v93) (fun v101 h100 => (jn (fun (h103 : mH) (s104 : Int32) => (rc h103 s104 (v5_ + (J 1)))) (fun j102 => (jn (fun (h106 : mH) => (j102 h106 (J 0))) (fun j105 => (if v4_ = 0 then (j105 h100) else (jn (fun (h108 : mH) => (j102 h108 (J 1))) (fun j107 => (if 0 < (v95 - v97) then (j107 h100) else (if (v95 - v97) = 0 then (if 0 < (v99 - v101) then (j107 h100) else (if (v99 - v101) = 0 then (if v93 ≤ v91 then (j105 h100) else (j107 h100)) else (j105 h100))) else (j105 h100))))))))))) (fun n9 h9 => xp n9 h9)))) (fun n9 h9 => xp n9 h9)))) (fun n9 h9 => xp n9 h9)))) (fun n9 h9 => xp n9 h9)))) (fun n9 h9 => xp n9 h9)))) (fun n9 h9 => xp n9 h9))))
noncomputable def P_W_areShipsRight_377 (Θ : mW) (N : Nat) (K478 : mH → Int32 → Option ((Int32 ⊕ Nat) × mH)) (f0_ : Nat) (f1_ : Int32) (f2_ : Int32) (f3_ : Int32) : Nat → mH → Int32 → Int32 → Option ((Int32 ⊕ Nat) × mH) :=
  lp (fun _ _ _ => none) (B_W_areShipsRight_377 Θ N K478 f0_ f1_ f2_ f3_)
noncomputable def P_W_areShipsRight (Θ : mW) (N : Nat) (h : mH) (a0 : Nat) : Option ((Int32 ⊕ Nat) × mH) :=
  (gO Θ h 0 a0 (bc (P_F_shipCount Θ N h a0) (fun v2 h1 => (jn (fun (h4 : mH) (s5 : Int32) => (P_W_areShipsRight_100 Θ N (fun h86 u87 u88 u89 => (P_W_areShipsRight_377 Θ N (fun h109 u110 => (if u110 = 0 then (some (.inl (J 0), h109)) else (gO Θ h109 0 a0 (bc (P_F_billTotal Θ N h109 a0) (fun v112 h111 => (if v112 = u87 then (gO Θ h111 0 a0 (bc (P_F_billTotalByAccount Θ N h111 a0) (fun v114 h113 => (if v114 = u87 then (jn (fun (h116 : mH) => (gO Θ h116 0 a0 (bc (P_F_isConsistent Θ N h116 a0) (fun v118 h117 => (if v118 = 0 then (some (.inl (J 0), h117)) else (some (.inl (J 1), h117))))))) (fun j115 => (if v2 = 0 then (j115 h113) else (gO Θ h113 0 a0 (bx (P_F_meanDirt Θ N h113 a0) (fun v120 h119 => (if (FP.ddiv (FP.i2d u88) (FP.i2d v2)) &&& 0x7fffffffffffffff ≤ 0x7ff0000000000000 then (if (Op.cmpValue (FP.dcmp v120 (FP.ddiv (FP.i2d u88) (FP.i2d v2))) .l) = 0 then (j115 h119) else (some (.inl (J 0), h119))) else none)) (fun n9 h9 => xp n9 h9)))))) else (some (.inl (J 0), h113)))))) else (some (.inl (J 0), h111)))))))) a0 v2 u87 u88 N h86 u89 (J 0))) a0 v2 N h4 (J 0) (J 0) s5 (J 0))) (fun j3 => (jn (fun (h122 : mH) => (j3 h122 (J 0))) (fun j121 => (if (J 8) < v2 then (j121 h1) else (bc (P_W_ask Θ N h1 a0 (J 0) v2) (fun v124 h123 => (if v124 = (J (-2002)) then (bc (P_W_ask Θ N h123 a0 (J 0) (J (-1))) (fun v126 h125 => (if v126 = (J (-2002)) then (bc (P_W_ask Θ N h125 a0 (J 10) v2) (fun v128 h127 => (if v128 = (J (-2002)) then (bc (P_W_ask Θ N h127 a0 (J 10) (J (-1))) (fun v130 h129 => (if v130 = (J (-2002)) then (bc (P_W_ask Θ N h129 a0 (J 13) (J (-1))) (fun v132 h131 => (if v132 = (J (-2004)) then (bc (P_W_ask Θ N h131 a0 (J 5) (J (-1))) (fun v134 h133 => (if v134 = (J (-2004)) then (j3 h133 (J 1)) else (j121 h133)))) else (j121 h131)))) else (j121 h129)))) else (j121 h127)))) else (j121 h125)))) else (j121 h123))))))))))))
theorem SB_W_areShipsRight_100 (hfl : HF l Θ) (hD : 13 ≤ d) {K374 : mH → Int32 → Int32 → Int32 → Option ((Int32 ⊕ Nat) × mH)} {f0_ : Nat} {f1_ : Int32}  (hK374 : ∀ (h : mH) (v2_ : Int32) (v3_ : Int32) (v4_ : Int32), mY l Θ d M_W_areShipsRight 374 [some (.ref f0_), some (.int f1_), some (.int v2_), some (.int v3_), some (.int v4_), none, none, none, none, none] [] h (tX vI) (K374 h v2_ v3_ v4_)) (rc : mH → Int32 → Int32 → Int32 → Int32 → Option ((Int32 ⊕ Nat) × mH)) (ih : ∀ (h : mH) (v2_ : Int32) (v3_ : Int32) (v4_ : Int32) (v5_ : Int32), mY l Θ d M_W_areShipsRight 100 [some (.ref f0_), some (.int f1_), some (.int v2_), some (.int v3_), some (.int v4_), some (.int v5_), none, none, none, none] [] h (tX vI) (rc h v2_ v3_ v4_ v5_)) : ∀ (h : mH) (v2_ : Int32) (v3_ : Int32) (v4_ : Int32) (v5_ : Int32), mY l Θ d M_W_areShipsRight 100 [some (.ref f0_), some (.int f1_), some (.int v2_), some (.int v3_), some (.int v4_), some (.int v5_), none, none, none, none] [] h (tX vI) (B_W_areShipsRight_100 Θ N K374 f0_ f1_ rc h v2_ v3_ v4_ v5_) := by
  intro h v2_ v3_ v4_ v5_
  unfold B_W_areShipsRight_100
  refine y_iload d_W_areShipsRight_100 rfl ?_
  refine y_iload_n d_W_areShipsRight_102 rfl ?_
  refine y_icmp_ge (tgt := 374) d_W_areShipsRight_103 (by decide) ?_ ?_
  · exact y_wk (loc2 := [some (.ref f0_), some (.int f1_), some (.int v2_), some (.int v3_), some (.int v4_), none, none, none, none, none]) ⟨rfl, ⟨rfl, ⟨rfl, ⟨rfl, ⟨rfl, trivial⟩⟩⟩⟩⟩ (hK374 h v2_ v3_ v4_)
  · refine y_aload_n d_W_areShipsRight_106 rfl ?_
    refine y_iload d_W_areShipsRight_107 rfl ?_
    refine y_gO (fun fs1 g1 => y_xI (c_vi (rest := []) d_W_areShipsRight_109 k_F_shipAt s_W_75 (Or.inl ⟨_, _, _, g1, rfl, rfl⟩) rfl rfl (Nat.le_of_ble_eq_true rfl) (Nat.le_trans (Nat.le_of_ble_eq_true rfl : 6 + 1 ≤ 13) hD) (S_F_shipAt hfl (Nat.le_refl _) h f0_ v5_)) (fun v7 h6 => ?_) (fun _ _ => y_hp rfl))
    refine y_istore (loc2 := [some (.ref f0_), some (.int f1_), some (.int v2_), some (.int v3_), some (.int v4_), some (.int v5_), some (.int v7), none, none, none]) d_W_areShipsRight_112 (Nat.le_of_ble_eq_true rfl) rfl rfl ?_
    refine y_aload_n d_W_areShipsRight_114 rfl ?_
    refine y_iconst (v := (J 1)) d_W_areShipsRight_115 rfl ?_
    refine y_iload d_W_areShipsRight_116 rfl ?_
    refine y_cI (c_st (rest := []) d_W_areShipsRight_118 k_W_ask s_W_162 rfl rfl (Nat.le_of_ble_eq_true rfl) (Nat.le_trans (Nat.le_of_ble_eq_true rfl : 10 + 1 ≤ 13) hD) (S_W_ask hfl (Nat.le_refl _) h6 f0_ (J 1) v7)) (fun v9 h8 => ?_)
    refine y_istore (loc2 := [some (.ref f0_), some (.int f1_), some (.int v2_), some (.int v3_), some (.int v4_), some (.int v5_), some (.int v7), some (.int v9), none, none]) d_W_areShipsRight_121 (Nat.le_of_ble_eq_true rfl) rfl rfl ?_
    refine y_iload_n d_W_areShipsRight_123 rfl ?_
    refine y_aload_n d_W_areShipsRight_124 rfl ?_
    refine y_iload d_W_areShipsRight_125 rfl ?_
    refine y_gO (fun fs1 g1 => y_xI (c_vi (rest := [.int v2_]) d_W_areShipsRight_127 k_F_billOf s_W_142 (Or.inl ⟨_, _, _, g1, rfl, rfl⟩) rfl rfl (Nat.le_of_ble_eq_true rfl) (Nat.le_trans (Nat.le_of_ble_eq_true rfl : 7 + 1 ≤ 13) hD) (S_F_billOf hfl (Nat.le_refl _) h8 f0_ v7)) (fun v11 h10 => ?_) (fun _ _ => y_hp rfl))
    refine y_iadd (v := (v2_ + v11)) d_W_areShipsRight_130 rfl ?_
    refine y_istore_n (loc2 := [some (.ref f0_), some (.int f1_), some (.int (v2_ + v11)), some (.int v3_), some (.int v4_), some (.int v5_), some (.int v7), some (.int v9), none, none]) d_W_areShipsRight_131 (Nat.le_of_ble_eq_true rfl) rfl rfl ?_
    refine y_iload_n d_W_areShipsRight_132 rfl ?_
    refine y_aload_n d_W_areShipsRight_133 rfl ?_
    refine y_iload d_W_areShipsRight_134 rfl ?_
    refine y_gO (fun fs1 g1 => y_xI (c_vi (rest := [.int v3_]) d_W_areShipsRight_136 k_F_dirtOf s_W_115 (Or.inl ⟨_, _, _, g1, rfl, rfl⟩) rfl rfl (Nat.le_of_ble_eq_true rfl) (Nat.le_trans (Nat.le_of_ble_eq_true rfl : 7 + 1 ≤ 13) hD) (S_F_dirtOf hfl (Nat.le_refl _) h10 f0_ v7)) (fun v13 h12 => ?_) (fun _ _ => y_hp rfl))
    refine y_iadd (v := (v3_ + v13)) d_W_areShipsRight_139 rfl ?_
    refine y_istore_n (loc2 := [some (.ref f0_), some (.int f1_), some (.int (v2_ + v11)), some (.int (v3_ + v13)), some (.int v4_), some (.int v5_), some (.int v7), some (.int v9), none, none]) d_W_areShipsRight_140 (Nat.le_of_ble_eq_true rfl) rfl rfl ?_
    refine y_iload d_W_areShipsRight_141 rfl ?_
    refine y_sipush (v := (J (-2005))) d_W_areShipsRight_143 (by decide +kernel) ?_
    refine y_jn (C := fun (j9 : mH → Nat → Option ((Int32 ⊕ Nat) × mH)) => ∀ (h15 : mH) (s16 : Nat), mY l Θ d M_W_areShipsRight 170 [some (.ref f0_), some (.int f1_), some (.int (v2_ + v11)), some (.int (v3_ + v13)), some (.int v4_), some (.int v5_), some (.int v7), some (.int v9), none, none] [.ref s16] h15 (tX vI) (j9 h15 s16)) (fun h15 s16 => ?_) (fun j14 Hj14 => ?_)
    · refine y_astore (loc2 := [some (.ref f0_), some (.int f1_), some (.int (v2_ + v11)), some (.int (v3_ + v13)), some (.int v4_), some (.int v5_), some (.int v7), some (.int v9), some (.ref s16), none]) d_W_areShipsRight_170 (Nat.le_of_ble_eq_true rfl) rfl rfl ?_
      refine y_new d_W_areShipsRight_172 n_W_185 (fun q17 h18 _ _ => ?_)
      refine y_dup d_W_areShipsRight_175 rfl ?_
      refine y_cU (c_in (rest := [.ref q17]) d_W_areShipsRight_176 k_SB_init s_W_187 rfl rfl (Nat.le_of_ble_eq_true rfl) (Nat.le_trans (Nat.le_of_ble_eq_true rfl : 2 + 1 ≤ 13) hD) (S_SB_init hfl (Nat.le_refl _) h18 q17)) (fun v20 h19 => ?_)
      refine y_ldcS d_W_areShipsRight_179 (List.mem_of_getElem? (i := 44) rfl) ?_
      refine y_gO (fun fs1 g1 => y_cA (c_vi (rest := []) d_W_areShipsRight_181 k_SB_append_o s_W_188 (Or.inl ⟨_, _, _, g1, rfl, rfl⟩) rfl rfl (Nat.le_of_ble_eq_true rfl) (Nat.le_trans (Nat.le_of_ble_eq_true rfl : 5 + 1 ≤ 13) hD) (S_SB_append_o hfl (Nat.le_refl _) h19 q17 (mwad Θ 95))) (fun v22 h21 => ?_))
      refine y_iload d_W_areShipsRight_184 rfl ?_
      refine y_gO (fun fs1 g1 => y_cA (c_vi (rest := []) d_W_areShipsRight_186 k_SB_append_I s_W_192 (Or.inl ⟨_, _, _, g1, rfl, rfl⟩) rfl rfl (Nat.le_of_ble_eq_true rfl) (Nat.le_trans (Nat.le_of_ble_eq_true rfl : 5 + 1 ≤ 13) hD) (S_SB_append_I hfl (Nat.le_refl _) h21 v22 v7)) (fun v24 h23 => ?_))
      refine y_ldcS d_W_areShipsRight_189 (List.mem_of_getElem? (i := 45) rfl) ?_
      refine y_gO (fun fs1 g1 => y_cA (c_vi (rest := []) d_W_areShipsRight_191 k_SB_append_o s_W_188 (Or.inl ⟨_, _, _, g1, rfl, rfl⟩) rfl rfl (Nat.le_of_ble_eq_true rfl) (Nat.le_trans (Nat.le_of_ble_eq_true rfl : 5 + 1 ≤ 13) hD) (S_SB_append_o hfl (Nat.le_refl _) h23 v24 (mwad Θ 96))) (fun v26 h25 => ?_))
      refine y_aload_n d_W_areShipsRight_194 rfl ?_
      refine y_iload d_W_areShipsRight_195 rfl ?_
      refine y_gO (fun fs1 g1 => y_xI (c_vi (rest := [.ref v26]) d_W_areShipsRight_197 k_F_billOf s_W_142 (Or.inl ⟨_, _, _, g1, rfl, rfl⟩) rfl rfl (Nat.le_of_ble_eq_true rfl) (Nat.le_trans (Nat.le_of_ble_eq_true rfl : 7 + 1 ≤ 13) hD) (S_F_billOf hfl (Nat.le_refl _) h25 f0_ v7)) (fun v28 h27 => ?_) (fun _ _ => y_hp rfl))
      refine y_gO (fun fs1 g1 => y_cA (c_vi (rest := []) d_W_areShipsRight_200 k_SB_append_I s_W_192 (Or.inl ⟨_, _, _, g1, rfl, rfl⟩) rfl rfl (Nat.le_of_ble_eq_true rfl) (Nat.le_trans (Nat.le_of_ble_eq_true rfl : 5 + 1 ≤ 13) hD) (S_SB_append_I hfl (Nat.le_refl _) h27 v26 v28)) (fun v30 h29 => ?_))
      refine y_ldcS d_W_areShipsRight_203 (List.mem_of_getElem? (i := 46) rfl) ?_
      refine y_gO (fun fs1 g1 => y_cA (c_vi (rest := []) d_W_areShipsRight_205 k_SB_append_o s_W_188 (Or.inl ⟨_, _, _, g1, rfl, rfl⟩) rfl rfl (Nat.le_of_ble_eq_true rfl) (Nat.le_trans (Nat.le_of_ble_eq_true rfl : 5 + 1 ≤ 13) hD) (S_SB_append_o hfl (Nat.le_refl _) h29 v30 (mwad Θ 97))) (fun v32 h31 => ?_))
      refine y_aload_n d_W_areShipsRight_208 rfl ?_
      refine y_iload d_W_areShipsRight_209 rfl ?_
      refine y_gO (fun fs1 g1 => y_xI (c_vi (rest := [.ref v32]) d_W_areShipsRight_211 k_F_dirtOf s_W_115 (Or.inl ⟨_, _, _, g1, rfl, rfl⟩) rfl rfl (Nat.le_of_ble_eq_true rfl) (Nat.le_trans (Nat.le_of_ble_eq_true rfl : 7 + 1 ≤ 13) hD) (S_F_dirtOf hfl (Nat.le_refl _) h31 f0_ v7)) (fun v34 h33 => ?_) (fun _ _ => y_hp rfl))
      refine y_gO (fun fs1 g1 => y_cA (c_vi (rest := []) d_W_areShipsRight_214 k_SB_append_I s_W_192 (Or.inl ⟨_, _, _, g1, rfl, rfl⟩) rfl rfl (Nat.le_of_ble_eq_true rfl) (Nat.le_trans (Nat.le_of_ble_eq_true rfl : 5 + 1 ≤ 13) hD) (S_SB_append_I hfl (Nat.le_refl _) h33 v32 v34)) (fun v36 h35 => ?_))
      refine y_aload_n d_W_areShipsRight_217 rfl ?_
      refine y_iload d_W_areShipsRight_218 rfl ?_
      refine y_gO (fun fs1 g1 => y_xI (c_vi (rest := [.ref v36]) d_W_areShipsRight_220 k_F_damageOf s_W_165 (Or.inl ⟨_, _, _, g1, rfl, rfl⟩) rfl rfl (Nat.le_of_ble_eq_true rfl) (Nat.le_trans (Nat.le_of_ble_eq_true rfl : 7 + 1 ≤ 13) hD) (S_F_damageOf hfl (Nat.le_refl _) h35 f0_ v7)) (fun v38 h37 => ?_) (fun _ _ => y_hp rfl))
      refine y_jn (C := fun (j9 : mH → Nat → Option ((Int32 ⊕ Nat) × mH)) => ∀ (h40 : mH) (s41 : Nat), mY l Θ d M_W_areShipsRight 255 [some (.ref f0_), some (.int f1_), some (.int (v2_ + v11)), some (.int (v3_ + v13)), some (.int v4_), some (.int v5_), some (.int v7), some (.int v9), some (.ref s16), none] [.ref s41, .ref v36] h40 (tX vI) (j9 h40 s41)) (fun h40 s41 => ?_) (fun j39 Hj39 => ?_)
      · refine y_gO (fun fs1 g1 => y_cA (c_vi (rest := []) d_W_areShipsRight_255 k_SB_append_o s_W_188 (Or.inl ⟨_, _, _, g1, rfl, rfl⟩) rfl rfl (Nat.le_of_ble_eq_true rfl) (Nat.le_trans (Nat.le_of_ble_eq_true rfl : 5 + 1 ≤ 13) hD) (S_SB_append_o hfl (Nat.le_refl _) h40 v36 s41)) (fun v43 h42 => ?_))
        refine y_aload d_W_areShipsRight_258 rfl ?_
        refine y_gO (fun fs1 g1 => y_cA (c_vi (rest := []) d_W_areShipsRight_260 k_SB_append_o s_W_188 (Or.inl ⟨_, _, _, g1, rfl, rfl⟩) rfl rfl (Nat.le_of_ble_eq_true rfl) (Nat.le_trans (Nat.le_of_ble_eq_true rfl : 5 + 1 ≤ 13) hD) (S_SB_append_o hfl (Nat.le_refl _) h42 v43 s16)) (fun v45 h44 => ?_))
        refine y_gO (fun fs1 g1 => y_cA (c_vi (rest := []) d_W_areShipsRight_263 k_SB_toString s_W_195 (Or.inl ⟨_, _, _, g1, rfl, rfl⟩) rfl rfl (Nat.le_of_ble_eq_true rfl) (Nat.le_trans (Nat.le_of_ble_eq_true rfl : 11 + 1 ≤ 13) hD) (S_SB_toString hfl (Nat.le_refl _) h44 v45)) (fun v47 h46 => ?_))
        refine y_astore (loc2 := [some (.ref f0_), some (.int f1_), some (.int (v2_ + v11)), some (.int (v3_ + v13)), some (.int v4_), some (.int v5_), some (.int v7), some (.int v9), some (.ref s16), some (.ref v47)]) d_W_areShipsRight_266 (Nat.le_of_ble_eq_true rfl) rfl rfl ?_
        refine y_iload d_W_areShipsRight_268 rfl ?_
        refine y_jn (C := fun (j9 : mH → Int32 → Option ((Int32 ⊕ Nat) × mH)) => ∀ (h49 : mH) (s50 : Int32), mY l Θ d M_W_areShipsRight 366 [some (.ref f0_), some (.int f1_), some (.int (v2_ + v11)), some (.int (v3_ + v13)), none, some (.int v5_), none, none, none, none] [.int s50] h49 (tX vI) (j9 h49 s50)) (fun h49 s50 => ?_) (fun j48 Hj48 => ?_)
        · refine y_istore (loc2 := [some (.ref f0_), some (.int f1_), some (.int (v2_ + v11)), some (.int (v3_ + v13)), some (.int s50), some (.int v5_), none, none, none, none]) d_W_areShipsRight_366 (Nat.le_of_ble_eq_true rfl) rfl rfl ?_
          refine y_iinc (v := (v5_ + (J 1))) (loc2 := [some (.ref f0_), some (.int f1_), some (.int (v2_ + v11)), some (.int (v3_ + v13)), some (.int s50), some (.int (v5_ + (J 1))), none, none, none, none]) d_W_areShipsRight_368 rfl rfl (Nat.le_of_ble_eq_true rfl) rfl rfl ?_
          refine y_goto (tgt := 100) d_W_areShipsRight_371 (by decide) ?_
          exact ih h49 (v2_ + v11) (v3_ + v13) s50 (v5_ + (J 1))
        · refine y_jn (C := fun (j9 : mH → Option ((Int32 ⊕ Nat) × mH)) => ∀ (h52 : mH), mY l Θ d M_W_areShipsRight 365 [some (.ref f0_), some (.int f1_), some (.int (v2_ + v11)), some (.int (v3_ + v13)), none, some (.int v5_), none, none, none, none] [] h52 (tX vI) (j9 h52)) (fun h52 => ?_) (fun j51 Hj51 => ?_)
          · refine y_iconst (v := (J 0)) d_W_areShipsRight_365 rfl ?_
            exact Hj48 h52 (J 0)
          · refine y_if_eq (tgt := 365) d_W_areShipsRight_270 (by decide) ?_ ?_
            · exact y_wk (loc2 := [some (.ref f0_), some (.int f1_), some (.int (v2_ + v11)), some (.int (v3_ + v13)), none, some (.int v5_), none, none, none, none]) ⟨rfl, ⟨rfl, ⟨rfl, ⟨rfl, ⟨rfl, trivial⟩⟩⟩⟩⟩ (Hj51 h46)
            · refine y_aload_n d_W_areShipsRight_273 rfl ?_
              refine y_iload d_W_areShipsRight_274 rfl ?_
              refine y_gO (fun fs1 g1 => y_xI (c_vi (rest := []) d_W_areShipsRight_276 k_F_isInDock s_W_239 (Or.inl ⟨_, _, _, g1, rfl, rfl⟩) rfl rfl (Nat.le_of_ble_eq_true rfl) (Nat.le_trans (Nat.le_of_ble_eq_true rfl : 7 + 1 ≤ 13) hD) (S_F_isInDock hfl (Nat.le_refl _) h46 f0_ v7)) (fun v54 h53 => ?_) (fun _ _ => y_hp rfl))
              refine y_iload d_W_areShipsRight_279 rfl ?_
              refine y_jn (C := fun (j9 : mH → Int32 → Option ((Int32 ⊕ Nat) × mH)) => ∀ (h56 : mH) (s57 : Int32), mY l Θ d M_W_areShipsRight 289 [some (.ref f0_), some (.int f1_), some (.int (v2_ + v11)), some (.int (v3_ + v13)), none, some (.int v5_), some (.int v7), some (.int v9), none, some (.ref v47)] [.int s57, .int v54] h56 (tX vI) (j9 h56 s57)) (fun h56 s57 => ?_) (fun j55 Hj55 => ?_)
              · refine y_icmp_ne (tgt := 365) d_W_areShipsRight_289 (by decide) ?_ ?_
                · exact y_wk (loc2 := [some (.ref f0_), some (.int f1_), some (.int (v2_ + v11)), some (.int (v3_ + v13)), none, some (.int v5_), none, none, none, none]) ⟨rfl, ⟨rfl, ⟨rfl, ⟨rfl, ⟨rfl, trivial⟩⟩⟩⟩⟩ (Hj51 h56)
                · refine y_iload d_W_areShipsRight_292 rfl ?_
                  refine y_jn (C := fun (j9 : mH → Option ((Int32 ⊕ Nat) × mH)) => ∀ (h59 : mH), mY l Θ d M_W_areShipsRight 328 [some (.ref f0_), some (.int f1_), some (.int (v2_ + v11)), some (.int (v3_ + v13)), none, some (.int v5_), some (.int v7), none, none, some (.ref v47)] [] h59 (tX vI) (j9 h59)) (fun h59 => ?_) (fun j58 Hj58 => ?_)
                  · refine y_iload d_W_areShipsRight_328 rfl ?_
                    refine y_jn (C := fun (j9 : mH → Option ((Int32 ⊕ Nat) × mH)) => ∀ (h61 : mH), mY l Θ d M_W_areShipsRight 346 [some (.ref f0_), some (.int f1_), some (.int (v2_ + v11)), some (.int (v3_ + v13)), none, some (.int v5_), some (.int v7), none, none, some (.ref v47)] [] h61 (tX vI) (j9 h61)) (fun h61 => ?_) (fun j60 Hj60 => ?_)
                    · refine y_aload_n d_W_areShipsRight_346 rfl ?_
                      refine y_aload_n d_W_areShipsRight_347 rfl ?_
                      refine y_iload d_W_areShipsRight_348 rfl ?_
                      refine y_gO (fun fs1 g1 => y_xI (c_vi (rest := [.ref f0_]) d_W_areShipsRight_350 k_F_describeBill s_W_242 (Or.inl ⟨_, _, _, g1, rfl, rfl⟩) rfl rfl (Nat.le_of_ble_eq_true rfl) (Nat.le_trans (Nat.le_of_ble_eq_true rfl : 7 + 1 ≤ 13) hD) (S_F_describeBill hfl (Nat.le_refl _) h61 f0_ v7)) (fun v63 h62 => ?_) (fun _ _ => y_hp rfl))
                      refine y_aload d_W_areShipsRight_353 rfl ?_
                      refine y_xI (c_st (rest := []) d_W_areShipsRight_355 k_W_isLine s_W_220 rfl rfl (Nat.le_of_ble_eq_true rfl) (Nat.le_trans (Nat.le_of_ble_eq_true rfl : 7 + 1 ≤ 13) hD) (S_W_isLine hfl (Nat.le_refl _) h62 f0_ v63 v47)) (fun v65 h64 => ?_) (fun _ _ => y_hp rfl)
                      refine y_if_eq (tgt := 365) d_W_areShipsRight_358 (by decide) ?_ ?_
                      · exact y_wk (loc2 := [some (.ref f0_), some (.int f1_), some (.int (v2_ + v11)), some (.int (v3_ + v13)), none, some (.int v5_), none, none, none, none]) ⟨rfl, ⟨rfl, ⟨rfl, ⟨rfl, ⟨rfl, trivial⟩⟩⟩⟩⟩ (Hj51 h64)
                      · refine y_iconst (v := (J 1)) d_W_areShipsRight_361 rfl ?_
                        refine y_goto (tgt := 366) d_W_areShipsRight_362 (by decide) ?_
                        exact y_wk (loc2 := [some (.ref f0_), some (.int f1_), some (.int (v2_ + v11)), some (.int (v3_ + v13)), none, some (.int v5_), none, none, none, none]) ⟨rfl, ⟨rfl, ⟨rfl, ⟨rfl, ⟨rfl, trivial⟩⟩⟩⟩⟩ (Hj48 h64 (J 1))
                    · refine y_if_eq (tgt := 346) d_W_areShipsRight_330 (by decide) ?_ ?_
                      · exact Hj60 h59
                      · refine y_aload_n d_W_areShipsRight_333 rfl ?_
                        refine y_iload d_W_areShipsRight_334 rfl ?_
                        refine y_iconst (v := (J 1)) d_W_areShipsRight_336 rfl ?_
                        refine y_isub (v := (v5_ - (J 1))) d_W_areShipsRight_337 rfl ?_
                        refine y_gO (fun fs1 g1 => y_xI (c_vi (rest := []) d_W_areShipsRight_338 k_F_shipAt s_W_75 (Or.inl ⟨_, _, _, g1, rfl, rfl⟩) rfl rfl (Nat.le_of_ble_eq_true rfl) (Nat.le_trans (Nat.le_of_ble_eq_true rfl : 6 + 1 ≤ 13) hD) (S_F_shipAt hfl (Nat.le_refl _) h59 f0_ (v5_ - (J 1)))) (fun v67 h66 => ?_) (fun _ _ => y_hp rfl))
                        refine y_iload d_W_areShipsRight_341 rfl ?_
                        refine y_icmp_ge (tgt := 365) d_W_areShipsRight_343 (by decide) ?_ ?_
                        · exact y_wk (loc2 := [some (.ref f0_), some (.int f1_), some (.int (v2_ + v11)), some (.int (v3_ + v13)), none, some (.int v5_), none, none, none, none]) ⟨rfl, ⟨rfl, ⟨rfl, ⟨rfl, ⟨rfl, trivial⟩⟩⟩⟩⟩ (Hj51 h66)
                        · exact Hj60 h66
                  · refine y_if_ge (tgt := 317) d_W_areShipsRight_294 (by decide) ?_ ?_
                    · refine y_aload_n d_W_areShipsRight_317 rfl ?_
                      refine y_iload d_W_areShipsRight_318 rfl ?_
                      refine y_gO (fun fs1 g1 => y_xI (c_vi (rest := []) d_W_areShipsRight_320 k_F_shipAtPosition s_W_97 (Or.inl ⟨_, _, _, g1, rfl, rfl⟩) rfl rfl (Nat.le_of_ble_eq_true rfl) (Nat.le_trans (Nat.le_of_ble_eq_true rfl : 7 + 1 ≤ 13) hD) (S_F_shipAtPosition hfl (Nat.le_refl _) h56 f0_ v9)) (fun v69 h68 => ?_) (fun _ _ => y_hp rfl))
                      refine y_iload d_W_areShipsRight_323 rfl ?_
                      refine y_icmp_ne (tgt := 365) d_W_areShipsRight_325 (by decide) ?_ ?_
                      · exact y_wk (loc2 := [some (.ref f0_), some (.int f1_), some (.int (v2_ + v11)), some (.int (v3_ + v13)), none, some (.int v5_), none, none, none, none]) ⟨rfl, ⟨rfl, ⟨rfl, ⟨rfl, ⟨rfl, trivial⟩⟩⟩⟩⟩ (Hj51 h68)
                      · exact y_wk (loc2 := [some (.ref f0_), some (.int f1_), some (.int (v2_ + v11)), some (.int (v3_ + v13)), none, some (.int v5_), some (.int v7), none, none, some (.ref v47)]) ⟨rfl, ⟨rfl, ⟨rfl, ⟨rfl, ⟨rfl, ⟨rfl, ⟨rfl, trivial⟩⟩⟩⟩⟩⟩⟩ (Hj58 h68)
                    · refine y_iload d_W_areShipsRight_297 rfl ?_
                      refine y_sipush (v := (J (-2005))) d_W_areShipsRight_299 (by decide +kernel) ?_
                      refine y_icmp_ne (tgt := 365) d_W_areShipsRight_302 (by decide) ?_ ?_
                      · exact y_wk (loc2 := [some (.ref f0_), some (.int f1_), some (.int (v2_ + v11)), some (.int (v3_ + v13)), none, some (.int v5_), none, none, none, none]) ⟨rfl, ⟨rfl, ⟨rfl, ⟨rfl, ⟨rfl, trivial⟩⟩⟩⟩⟩ (Hj51 h56)
                      · refine y_aload_n d_W_areShipsRight_305 rfl ?_
                        refine y_iload d_W_areShipsRight_306 rfl ?_
                        refine y_gO (fun fs1 g1 => y_xI (c_vi (rest := []) d_W_areShipsRight_308 k_F_isAfloat s_W_224 (Or.inl ⟨_, _, _, g1, rfl, rfl⟩) rfl rfl (Nat.le_of_ble_eq_true rfl) (Nat.le_trans (Nat.le_of_ble_eq_true rfl : 7 + 1 ≤ 13) hD) (S_F_isAfloat hfl (Nat.le_refl _) h56 f0_ v7)) (fun v71 h70 => ?_) (fun _ _ => y_hp rfl))
                        refine y_if_eq (tgt := 365) d_W_areShipsRight_311 (by decide) ?_ ?_
                        · exact y_wk (loc2 := [some (.ref f0_), some (.int f1_), some (.int (v2_ + v11)), some (.int (v3_ + v13)), none, some (.int v5_), none, none, none, none]) ⟨rfl, ⟨rfl, ⟨rfl, ⟨rfl, ⟨rfl, trivial⟩⟩⟩⟩⟩ (Hj51 h70)
                        · refine y_goto (tgt := 328) d_W_areShipsRight_314 (by decide) ?_
                          exact y_wk (loc2 := [some (.ref f0_), some (.int f1_), some (.int (v2_ + v11)), some (.int (v3_ + v13)), none, some (.int v5_), some (.int v7), none, none, some (.ref v47)]) ⟨rfl, ⟨rfl, ⟨rfl, ⟨rfl, ⟨rfl, ⟨rfl, ⟨rfl, trivial⟩⟩⟩⟩⟩⟩⟩ (Hj58 h70)
              · refine y_if_lt (tgt := 288) d_W_areShipsRight_281 (by decide) ?_ ?_
                · refine y_iconst (v := (J 0)) d_W_areShipsRight_288 rfl ?_
                  exact y_wk (loc2 := [some (.ref f0_), some (.int f1_), some (.int (v2_ + v11)), some (.int (v3_ + v13)), none, some (.int v5_), some (.int v7), some (.int v9), none, some (.ref v47)]) ⟨rfl, ⟨rfl, ⟨rfl, ⟨rfl, ⟨rfl, ⟨rfl, ⟨rfl, ⟨rfl, trivial⟩⟩⟩⟩⟩⟩⟩⟩ (Hj55 h53 (J 0))
                · refine y_iconst (v := (J 1)) d_W_areShipsRight_284 rfl ?_
                  refine y_goto (tgt := 289) d_W_areShipsRight_285 (by decide) ?_
                  exact y_wk (loc2 := [some (.ref f0_), some (.int f1_), some (.int (v2_ + v11)), some (.int (v3_ + v13)), none, some (.int v5_), some (.int v7), some (.int v9), none, some (.ref v47)]) ⟨rfl, ⟨rfl, ⟨rfl, ⟨rfl, ⟨rfl, ⟨rfl, ⟨rfl, ⟨rfl, trivial⟩⟩⟩⟩⟩⟩⟩⟩ (Hj55 h53 (J 1))
      · refine y_if_ne (tgt := 231) d_W_areShipsRight_223 (by decide) ?_ ?_
        · refine y_new d_W_areShipsRight_231 n_W_185 (fun q72 h73 _ _ => ?_)
          refine y_dup d_W_areShipsRight_234 rfl ?_
          refine y_cU (c_in (rest := [.ref q72, .ref v36]) d_W_areShipsRight_235 k_SB_init s_W_187 rfl rfl (Nat.le_of_ble_eq_true rfl) (Nat.le_trans (Nat.le_of_ble_eq_true rfl : 2 + 1 ≤ 13) hD) (S_SB_init hfl (Nat.le_refl _) h73 q72)) (fun v75 h74 => ?_)
          refine y_ldcS d_W_areShipsRight_238 (List.mem_of_getElem? (i := 47) rfl) ?_
          refine y_gO (fun fs1 g1 => y_cA (c_vi (rest := [.ref v36]) d_W_areShipsRight_240 k_SB_append_o s_W_188 (Or.inl ⟨_, _, _, g1, rfl, rfl⟩) rfl rfl (Nat.le_of_ble_eq_true rfl) (Nat.le_trans (Nat.le_of_ble_eq_true rfl : 5 + 1 ≤ 13) hD) (S_SB_append_o hfl (Nat.le_refl _) h74 q72 (mwad Θ 98))) (fun v77 h76 => ?_))
          refine y_aload_n d_W_areShipsRight_243 rfl ?_
          refine y_iload d_W_areShipsRight_244 rfl ?_
          refine y_gO (fun fs1 g1 => y_xI (c_vi (rest := [.ref v77, .ref v36]) d_W_areShipsRight_246 k_F_damageOf s_W_165 (Or.inl ⟨_, _, _, g1, rfl, rfl⟩) rfl rfl (Nat.le_of_ble_eq_true rfl) (Nat.le_trans (Nat.le_of_ble_eq_true rfl : 7 + 1 ≤ 13) hD) (S_F_damageOf hfl (Nat.le_refl _) h76 f0_ v7)) (fun v79 h78 => ?_) (fun _ _ => y_hp rfl))
          refine y_gO (fun fs1 g1 => y_cA (c_vi (rest := [.ref v36]) d_W_areShipsRight_249 k_SB_append_I s_W_192 (Or.inl ⟨_, _, _, g1, rfl, rfl⟩) rfl rfl (Nat.le_of_ble_eq_true rfl) (Nat.le_trans (Nat.le_of_ble_eq_true rfl : 5 + 1 ≤ 13) hD) (S_SB_append_I hfl (Nat.le_refl _) h78 v77 v79)) (fun v81 h80 => ?_))
          refine y_gO (fun fs1 g1 => y_cA (c_vi (rest := [.ref v36]) d_W_areShipsRight_252 k_SB_toString s_W_195 (Or.inl ⟨_, _, _, g1, rfl, rfl⟩) rfl rfl (Nat.le_of_ble_eq_true rfl) (Nat.le_trans (Nat.le_of_ble_eq_true rfl : 11 + 1 ≤ 13) hD) (S_SB_toString hfl (Nat.le_refl _) h80 v81)) (fun v83 h82 => ?_))
          exact Hj39 h82 v83
        · refine y_ldcS d_W_areShipsRight_226 (List.mem_of_getElem? (i := 39) rfl) ?_
          refine y_goto (tgt := 255) d_W_areShipsRight_228 (by decide) ?_
          exact Hj39 h37 (mwad Θ 90)
    · refine y_icmp_ne (tgt := 154) d_W_areShipsRight_146 (by decide) ?_ ?_
      · refine y_aload_n d_W_areShipsRight_154 rfl ?_
        refine y_iload d_W_areShipsRight_155 rfl ?_
        refine y_gO (fun fs1 g1 => y_xI (c_vi (rest := []) d_W_areShipsRight_157 k_F_isAfloat s_W_224 (Or.inl ⟨_, _, _, g1, rfl, rfl⟩) rfl rfl (Nat.le_of_ble_eq_true rfl) (Nat.le_trans (Nat.le_of_ble_eq_true rfl : 7 + 1 ≤ 13) hD) (S_F_isAfloat hfl (Nat.le_refl _) h12 f0_ v7)) (fun v85 h84 => ?_) (fun _ _ => y_hp rfl))
        refine y_if_eq (tgt := 168) d_W_areShipsRight_160 (by decide) ?_ ?_
        · refine y_ldcS d_W_areShipsRight_168 (List.mem_of_getElem? (i := 43) rfl) ?_
          exact Hj14 h84 (mwad Θ 94)
        · refine y_ldcS d_W_areShipsRight_163 (List.mem_of_getElem? (i := 42) rfl) ?_
          refine y_goto (tgt := 170) d_W_areShipsRight_165 (by decide) ?_
          exact Hj14 h84 (mwad Θ 93)
      · refine y_ldcS d_W_areShipsRight_149 (List.mem_of_getElem? (i := 39) rfl) ?_
        refine y_goto (tgt := 170) d_W_areShipsRight_151 (by decide) ?_
        exact Hj14 h12 (mwad Θ 90)
theorem S_W_areShipsRight_100 (hfl : HF l Θ) (hD : 13 ≤ d) {K374 : mH → Int32 → Int32 → Int32 → Option ((Int32 ⊕ Nat) × mH)} {f0_ : Nat} {f1_ : Int32}  (hK374 : ∀ (h : mH) (v2_ : Int32) (v3_ : Int32) (v4_ : Int32), mY l Θ d M_W_areShipsRight 374 [some (.ref f0_), some (.int f1_), some (.int v2_), some (.int v3_), some (.int v4_), none, none, none, none, none] [] h (tX vI) (K374 h v2_ v3_ v4_)) : ∀ (n : Nat) (h : mH) (v2_ : Int32) (v3_ : Int32) (v4_ : Int32) (v5_ : Int32), mY l Θ d M_W_areShipsRight 100 [some (.ref f0_), some (.int f1_), some (.int v2_), some (.int v3_), some (.int v4_), some (.int v5_), none, none, none, none] [] h (tX vI) (P_W_areShipsRight_100 Θ N K374 f0_ f1_ n h v2_ v3_ v4_ v5_) :=
  fun n => lp_all (C := fun (rc : mH → Int32 → Int32 → Int32 → Int32 → Option ((Int32 ⊕ Nat) × mH)) => ∀ (h : mH) (v2_ : Int32) (v3_ : Int32) (v4_ : Int32) (v5_ : Int32), mY l Θ d M_W_areShipsRight 100 [some (.ref f0_), some (.int f1_), some (.int v2_), some (.int v3_), some (.int v4_), some (.int v5_), none, none, none, none] [] h (tX vI) (rc h v2_ v3_ v4_ v5_)) (fun _ _ _ _ _ => y_none) (fun rc ih => SB_W_areShipsRight_100 hfl hD hK374 rc ih) n
theorem SB_W_areShipsRight_377 (hfl : HF l Θ) (hD : 13 ≤ d) {K478 : mH → Int32 → Option ((Int32 ⊕ Nat) × mH)} {f0_ : Nat} {f1_ : Int32} {f2_ : Int32} {f3_ : Int32}  (hK478 : ∀ (h : mH) (v4_ : Int32), mY l Θ d M_W_areShipsRight 478 [some (.ref f0_), some (.int f1_), some (.int f2_), some (.int f3_), some (.int v4_), none, none, none, none, none] [] h (tX vI) (K478 h v4_)) (rc : mH → Int32 → Int32 → Option ((Int32 ⊕ Nat) × mH)) (ih : ∀ (h : mH) (v4_ : Int32) (v5_ : Int32), mY l Θ d M_W_areShipsRight 377 [some (.ref f0_), some (.int f1_), some (.int f2_), some (.int f3_), some (.int v4_), some (.int v5_), none, none, none, none] [] h (tX vI) (rc h v4_ v5_)) : ∀ (h : mH) (v4_ : Int32) (v5_ : Int32), mY l Θ d M_W_areShipsRight 377 [some (.ref f0_), some (.int f1_), some (.int f2_), some (.int f3_), some (.int v4_), some (.int v5_), none, none, none, none] [] h (tX vI) (B_W_areShipsRight_377 Θ N K478 f0_ f1_ f2_ f3_ rc h v4_ v5_) := by
  intro h v4_ v5_
  unfold B_W_areShipsRight_377
  refine y_iload d_W_areShipsRight_377 rfl ?_
  refine y_iconst (v := (J 1)) d_W_areShipsRight_379 rfl ?_
  refine y_iadd (v := (v5_ + (J 1))) d_W_areShipsRight_380 rfl ?_
  refine y_iload_n d_W_areShipsRight_381 rfl ?_
  refine y_icmp_ge (tgt := 478) d_W_areShipsRight_382 (by decide) ?_ ?_
  · exact y_wk (loc2 := [some (.ref f0_), some (.int f1_), some (.int f2_), some (.int f3_), some (.int v4_), none, none, none, none, none]) ⟨rfl, ⟨rfl, ⟨rfl, ⟨rfl, ⟨rfl, trivial⟩⟩⟩⟩⟩ (hK478 h v4_)
  · refine y_aload_n d_W_areShipsRight_385 rfl ?_
    refine y_iload d_W_areShipsRight_386 rfl ?_
    refine y_gO (fun fs1 g1 => y_xI (c_vi (rest := []) d_W_areShipsRight_388 k_F_shipAtRank s_W_106 (Or.inl ⟨_, _, _, g1, rfl, rfl⟩) rfl rfl (Nat.le_of_ble_eq_true rfl) (Nat.le_trans (Nat.le_of_ble_eq_true rfl : 6 + 1 ≤ 13) hD) (S_F_shipAtRank hfl (Nat.le_refl _) h f0_ v5_)) (fun v91 h90 => ?_) (fun _ _ => y_hp rfl))
    refine y_istore (loc2 := [some (.ref f0_), some (.int f1_), some (.int f2_), some (.int f3_), some (.int v4_), some (.int v5_), some (.int v91), none, none, none]) d_W_areShipsRight_391 (Nat.le_of_ble_eq_true rfl) rfl rfl ?_
    refine y_aload_n d_W_areShipsRight_393 rfl ?_
    refine y_iload d_W_areShipsRight_394 rfl ?_
    refine y_iconst (v := (J 1)) d_W_areShipsRight_396 rfl ?_
    refine y_iadd (v := (v5_ + (J 1))) d_W_areShipsRight_397 rfl ?_
    refine y_gO (fun fs1 g1 => y_xI (c_vi (rest := []) d_W_areShipsRight_398 k_F_shipAtRank s_W_106 (Or.inl ⟨_, _, _, g1, rfl, rfl⟩) rfl rfl (Nat.le_of_ble_eq_true rfl) (Nat.le_trans (Nat.le_of_ble_eq_true rfl : 6 + 1 ≤ 13) hD) (S_F_shipAtRank hfl (Nat.le_refl _) h90 f0_ (v5_ + (J 1)))) (fun v93 h92 => ?_) (fun _ _ => y_hp rfl))
    refine y_istore (loc2 := [some (.ref f0_), some (.int f1_), some (.int f2_), some (.int f3_), some (.int v4_), some (.int v5_), some (.int v91), some (.int v93), none, none]) d_W_areShipsRight_401 (Nat.le_of_ble_eq_true rfl) rfl rfl ?_
    refine y_aload_n d_W_areShipsRight_403 rfl ?_
    refine y_iload d_W_areShipsRight_404 rfl ?_
    refine y_gO (fun fs1 g1 => y_xI (c_vi (rest := []) d_W_areShipsRight_406 k_F_billOf s_W_142 (Or.inl ⟨_, _, _, g1, rfl, rfl⟩) rfl rfl (Nat.le_of_ble_eq_true rfl) (Nat.le_trans (Nat.le_of_ble_eq_true rfl : 7 + 1 ≤ 13) hD) (S_F_billOf hfl (Nat.le_refl _) h92 f0_ v91)) (fun v95 h94 => ?_) (fun _ _ => y_hp rfl))
    refine y_aload_n d_W_areShipsRight_409 rfl ?_
    refine y_iload d_W_areShipsRight_410 rfl ?_
    refine y_gO (fun fs1 g1 => y_xI (c_vi (rest := [.int v95]) d_W_areShipsRight_412 k_F_billOf s_W_142 (Or.inl ⟨_, _, _, g1, rfl, rfl⟩) rfl rfl (Nat.le_of_ble_eq_true rfl) (Nat.le_trans (Nat.le_of_ble_eq_true rfl : 7 + 1 ≤ 13) hD) (S_F_billOf hfl (Nat.le_refl _) h94 f0_ v93)) (fun v97 h96 => ?_) (fun _ _ => y_hp rfl))
    refine y_isub (v := (v95 - v97)) d_W_areShipsRight_415 rfl ?_
    refine y_istore (loc2 := [some (.ref f0_), some (.int f1_), some (.int f2_), some (.int f3_), some (.int v4_), some (.int v5_), some (.int v91), some (.int v93), some (.int (v95 - v97)), none]) d_W_areShipsRight_416 (Nat.le_of_ble_eq_true rfl) rfl rfl ?_
    refine y_aload_n d_W_areShipsRight_418 rfl ?_
    refine y_iload d_W_areShipsRight_419 rfl ?_
    refine y_gO (fun fs1 g1 => y_xI (c_vi (rest := []) d_W_areShipsRight_421 k_F_dirtOf s_W_115 (Or.inl ⟨_, _, _, g1, rfl, rfl⟩) rfl rfl (Nat.le_of_ble_eq_true rfl) (Nat.le_trans (Nat.le_of_ble_eq_true rfl : 7 + 1 ≤ 13) hD) (S_F_dirtOf hfl (Nat.le_refl _) h96 f0_ v91)) (fun v99 h98 => ?_) (fun _ _ => y_hp rfl))
    refine y_aload_n d_W_areShipsRight_424 rfl ?_
    refine y_iload d_W_areShipsRight_425 rfl ?_
    refine y_gO (fun fs1 g1 => y_xI (c_vi (rest := [.int v99]) d_W_areShipsRight_427 k_F_dirtOf s_W_115 (Or.inl ⟨_, _, _, g1, rfl, rfl⟩) rfl rfl (Nat.le_of_ble_eq_true rfl) (Nat.le_trans (Nat.le_of_ble_eq_true rfl : 7 + 1 ≤ 13) hD) (S_F_dirtOf hfl (Nat.le_refl _) h98 f0_ v93)) (fun v101 h100 => ?_) (fun _ _ => y_hp rfl))
    refine y_isub (v := (v99 - v101)) d_W_areShipsRight_430 rfl ?_
    refine y_istore (loc2 := [some (.ref f0_), some (.int f1_), some (.int f2_), some (.int f3_), some (.int v4_), some (.int v5_), some (.int v91), some (.int v93), some (.int (v95 - v97)), some (.int (v99 - v101))]) d_W_areShipsRight_431 (Nat.le_of_ble_eq_true rfl) rfl rfl ?_
    refine y_iload d_W_areShipsRight_433 rfl ?_
    refine y_jn (C := fun (j9 : mH → Int32 → Option ((Int32 ⊕ Nat) × mH)) => ∀ (h103 : mH) (s104 : Int32), mY l Θ d M_W_areShipsRight 470 [some (.ref f0_), some (.int f1_), some (.int f2_), some (.int f3_), none, some (.int v5_), none, none, none, none] [.int s104] h103 (tX vI) (j9 h103 s104)) (fun h103 s104 => ?_) (fun j102 Hj102 => ?_)
    · refine y_istore (loc2 := [some (.ref f0_), some (.int f1_), some (.int f2_), some (.int f3_), some (.int s104), some (.int v5_), none, none, none, none]) d_W_areShipsRight_470 (Nat.le_of_ble_eq_true rfl) rfl rfl ?_
      refine y_iinc (v := (v5_ + (J 1))) (loc2 := [some (.ref f0_), some (.int f1_), some (.int f2_), some (.int f3_), some (.int s104), some (.int (v5_ + (J 1))), none, none, none, none]) d_W_areShipsRight_472 rfl rfl (Nat.le_of_ble_eq_true rfl) rfl rfl ?_
      refine y_goto (tgt := 377) d_W_areShipsRight_475 (by decide) ?_
      exact ih h103 s104 (v5_ + (J 1))
    · refine y_jn (C := fun (j9 : mH → Option ((Int32 ⊕ Nat) × mH)) => ∀ (h106 : mH), mY l Θ d M_W_areShipsRight 469 [some (.ref f0_), some (.int f1_), some (.int f2_), some (.int f3_), none, some (.int v5_), none, none, none, none] [] h106 (tX vI) (j9 h106)) (fun h106 => ?_) (fun j105 Hj105 => ?_)
      · refine y_iconst (v := (J 0)) d_W_areShipsRight_469 rfl ?_
        exact Hj102 h106 (J 0)
      · refine y_if_eq (tgt := 469) d_W_areShipsRight_435 (by decide) ?_ ?_
        · exact y_wk (loc2 := [some (.ref f0_), some (.int f1_), some (.int f2_), some (.int f3_), none, some (.int v5_), none, none, none, none]) ⟨rfl, ⟨rfl, ⟨rfl, ⟨rfl, ⟨rfl, trivial⟩⟩⟩⟩⟩ (Hj105 h100)
        · refine y_iload d_W_areShipsRight_438 rfl ?_
          refine y_jn (C := fun (j9 : mH → Option ((Int32 ⊕ Nat) × mH)) => ∀ (h108 : mH), mY l Θ d M_W_areShipsRight 465 [some (.ref f0_), some (.int f1_), some (.int f2_), some (.int f3_), none, some (.int v5_), none, none, none, none] [] h108 (tX vI) (j9 h108)) (fun h108 => ?_) (fun j107 Hj107 => ?_)
          · refine y_iconst (v := (J 1)) d_W_areShipsRight_465 rfl ?_
            refine y_goto (tgt := 470) d_W_areShipsRight_466 (by decide) ?_
            exact Hj102 h108 (J 1)
          · refine y_if_gt (tgt := 465) d_W_areShipsRight_440 (by decide) ?_ ?_
            · exact y_wk (loc2 := [some (.ref f0_), some (.int f1_), some (.int f2_), some (.int f3_), none, some (.int v5_), none, none, none, none]) ⟨rfl, ⟨rfl, ⟨rfl, ⟨rfl, ⟨rfl, trivial⟩⟩⟩⟩⟩ (Hj107 h100)
            · refine y_iload d_W_areShipsRight_443 rfl ?_
              refine y_if_ne (tgt := 469) d_W_areShipsRight_445 (by decide) ?_ ?_
              · exact y_wk (loc2 := [some (.ref f0_), some (.int f1_), some (.int f2_), some (.int f3_), none, some (.int v5_), none, none, none, none]) ⟨rfl, ⟨rfl, ⟨rfl, ⟨rfl, ⟨rfl, trivial⟩⟩⟩⟩⟩ (Hj105 h100)
              · refine y_iload d_W_areShipsRight_448 rfl ?_
                refine y_if_gt (tgt := 465) d_W_areShipsRight_450 (by decide) ?_ ?_
                · exact y_wk (loc2 := [some (.ref f0_), some (.int f1_), some (.int f2_), some (.int f3_), none, some (.int v5_), none, none, none, none]) ⟨rfl, ⟨rfl, ⟨rfl, ⟨rfl, ⟨rfl, trivial⟩⟩⟩⟩⟩ (Hj107 h100)
                · refine y_iload d_W_areShipsRight_453 rfl ?_
                  refine y_if_ne (tgt := 469) d_W_areShipsRight_455 (by decide) ?_ ?_
                  · exact y_wk (loc2 := [some (.ref f0_), some (.int f1_), some (.int f2_), some (.int f3_), none, some (.int v5_), none, none, none, none]) ⟨rfl, ⟨rfl, ⟨rfl, ⟨rfl, ⟨rfl, trivial⟩⟩⟩⟩⟩ (Hj105 h100)
                  · refine y_iload d_W_areShipsRight_458 rfl ?_
                    refine y_iload d_W_areShipsRight_460 rfl ?_
                    refine y_icmp_ge (tgt := 469) d_W_areShipsRight_462 (by decide) ?_ ?_
                    · exact y_wk (loc2 := [some (.ref f0_), some (.int f1_), some (.int f2_), some (.int f3_), none, some (.int v5_), none, none, none, none]) ⟨rfl, ⟨rfl, ⟨rfl, ⟨rfl, ⟨rfl, trivial⟩⟩⟩⟩⟩ (Hj105 h100)
                    · exact y_wk (loc2 := [some (.ref f0_), some (.int f1_), some (.int f2_), some (.int f3_), none, some (.int v5_), none, none, none, none]) ⟨rfl, ⟨rfl, ⟨rfl, ⟨rfl, ⟨rfl, trivial⟩⟩⟩⟩⟩ (Hj107 h100)
theorem S_W_areShipsRight_377 (hfl : HF l Θ) (hD : 13 ≤ d) {K478 : mH → Int32 → Option ((Int32 ⊕ Nat) × mH)} {f0_ : Nat} {f1_ : Int32} {f2_ : Int32} {f3_ : Int32}  (hK478 : ∀ (h : mH) (v4_ : Int32), mY l Θ d M_W_areShipsRight 478 [some (.ref f0_), some (.int f1_), some (.int f2_), some (.int f3_), some (.int v4_), none, none, none, none, none] [] h (tX vI) (K478 h v4_)) : ∀ (n : Nat) (h : mH) (v4_ : Int32) (v5_ : Int32), mY l Θ d M_W_areShipsRight 377 [some (.ref f0_), some (.int f1_), some (.int f2_), some (.int f3_), some (.int v4_), some (.int v5_), none, none, none, none] [] h (tX vI) (P_W_areShipsRight_377 Θ N K478 f0_ f1_ f2_ f3_ n h v4_ v5_) :=
  fun n => lp_all (C := fun (rc : mH → Int32 → Int32 → Option ((Int32 ⊕ Nat) × mH)) => ∀ (h : mH) (v4_ : Int32) (v5_ : Int32), mY l Θ d M_W_areShipsRight 377 [some (.ref f0_), some (.int f1_), some (.int f2_), some (.int f3_), some (.int v4_), some (.int v5_), none, none, none, none] [] h (tX vI) (rc h v4_ v5_)) (fun _ _ _ => y_none) (fun rc ih => SB_W_areShipsRight_377 hfl hD hK478 rc ih) n
theorem S_W_areShipsRight (hfl : HF l Θ) (hD : 13 ≤ d) (h : mH) (a0 : Nat) : mMs l Θ d M_W_areShipsRight [.ref a0] h (tX vI) (P_W_areShipsRight Θ N h a0) := by
  refine mMs.of hfl (by decide +kernel) rfl (Nat.le_of_ble_eq_true rfl) (loc := [some (.ref a0), none, none, none, none, none, none, none, none, none]) rfl ?_
  unfold P_W_areShipsRight
  refine y_aload_n d_W_areShipsRight_0 rfl ?_
  refine y_gO (fun fs1 g1 => y_cI (c_vi (rest := []) d_W_areShipsRight_1 k_F_shipCount s_W_135 (Or.inl ⟨_, _, _, g1, rfl, rfl⟩) rfl rfl (Nat.le_of_ble_eq_true rfl) (Nat.le_trans (Nat.le_of_ble_eq_true rfl : 1 + 1 ≤ 13) hD) (S_F_shipCount hfl (Nat.le_refl _) h a0)) (fun v2 h1 => ?_))
  refine y_istore_n (loc2 := [some (.ref a0), some (.int v2), none, none, none, none, none, none, none, none]) d_W_areShipsRight_4 (Nat.le_of_ble_eq_true rfl) rfl rfl ?_
  refine y_iconst (v := (J 0)) d_W_areShipsRight_5 rfl ?_
  refine y_istore_n (loc2 := [some (.ref a0), some (.int v2), some (.int (J 0)), none, none, none, none, none, none, none]) d_W_areShipsRight_6 (Nat.le_of_ble_eq_true rfl) rfl rfl ?_
  refine y_iconst (v := (J 0)) d_W_areShipsRight_7 rfl ?_
  refine y_istore_n (loc2 := [some (.ref a0), some (.int v2), some (.int (J 0)), some (.int (J 0)), none, none, none, none, none, none]) d_W_areShipsRight_8 (Nat.le_of_ble_eq_true rfl) rfl rfl ?_
  refine y_iload_n d_W_areShipsRight_9 rfl ?_
  refine y_bipush (v := (J 8)) d_W_areShipsRight_10 (by decide +kernel) ?_
  refine y_jn (C := fun (j9 : mH → Int32 → Option ((Int32 ⊕ Nat) × mH)) => ∀ (h4 : mH) (s5 : Int32), mY l Θ d M_W_areShipsRight 95 [some (.ref a0), some (.int v2), some (.int (J 0)), some (.int (J 0)), none, none, none, none, none, none] [.int s5] h4 (tX vI) (j9 h4 s5)) (fun h4 s5 => ?_) (fun j3 Hj3 => ?_)
  · refine y_istore (loc2 := [some (.ref a0), some (.int v2), some (.int (J 0)), some (.int (J 0)), some (.int s5), none, none, none, none, none]) d_W_areShipsRight_95 (Nat.le_of_ble_eq_true rfl) rfl rfl ?_
    refine y_iconst (v := (J 0)) d_W_areShipsRight_97 rfl ?_
    refine y_istore (loc2 := [some (.ref a0), some (.int v2), some (.int (J 0)), some (.int (J 0)), some (.int s5), some (.int (J 0)), none, none, none, none]) d_W_areShipsRight_98 (Nat.le_of_ble_eq_true rfl) rfl rfl ?_
    refine S_W_areShipsRight_100 hfl hD (fun h86 u87 u88 u89 => ?_) N h4 (J 0) (J 0) s5 (J 0)
    refine y_iconst (v := (J 0)) d_W_areShipsRight_374 rfl ?_
    refine y_istore (loc2 := [some (.ref a0), some (.int v2), some (.int u87), some (.int u88), some (.int u89), some (.int (J 0)), none, none, none, none]) d_W_areShipsRight_375 (Nat.le_of_ble_eq_true rfl) rfl rfl ?_
    refine S_W_areShipsRight_377 hfl hD (fun h109 u110 => ?_) N h86 u89 (J 0)
    refine y_iload d_W_areShipsRight_478 rfl ?_
    refine y_if_eq (tgt := 527) d_W_areShipsRight_480 (by decide) ?_ ?_
    · refine y_iconst (v := (J 0)) d_W_areShipsRight_527 rfl ?_
      exact y_retIX d_W_areShipsRight_528 rfl (by decide +kernel)
    · refine y_aload_n d_W_areShipsRight_483 rfl ?_
      refine y_gO (fun fs1 g1 => y_cI (c_vi (rest := []) d_W_areShipsRight_484 k_F_billTotal s_W_245 (Or.inl ⟨_, _, _, g1, rfl, rfl⟩) rfl rfl (Nat.le_of_ble_eq_true rfl) (Nat.le_trans (Nat.le_of_ble_eq_true rfl : 2 + 1 ≤ 13) hD) (S_F_billTotal hfl (Nat.le_refl _) h109 a0)) (fun v112 h111 => ?_))
      refine y_iload_n d_W_areShipsRight_487 rfl ?_
      refine y_icmp_ne (tgt := 527) d_W_areShipsRight_488 (by decide) ?_ ?_
      · refine y_iconst (v := (J 0)) d_W_areShipsRight_527 rfl ?_
        exact y_retIX d_W_areShipsRight_528 rfl (by decide +kernel)
      · refine y_aload_n d_W_areShipsRight_491 rfl ?_
        refine y_gO (fun fs1 g1 => y_cI (c_vi (rest := []) d_W_areShipsRight_492 k_F_billTotalByAccount s_W_156 (Or.inl ⟨_, _, _, g1, rfl, rfl⟩) rfl rfl (Nat.le_of_ble_eq_true rfl) (Nat.le_trans (Nat.le_of_ble_eq_true rfl : 2 + 1 ≤ 13) hD) (S_F_billTotalByAccount hfl (Nat.le_refl _) h111 a0)) (fun v114 h113 => ?_))
        refine y_iload_n d_W_areShipsRight_495 rfl ?_
        refine y_icmp_ne (tgt := 527) d_W_areShipsRight_496 (by decide) ?_ ?_
        · refine y_iconst (v := (J 0)) d_W_areShipsRight_527 rfl ?_
          exact y_retIX d_W_areShipsRight_528 rfl (by decide +kernel)
        · refine y_iload_n d_W_areShipsRight_499 rfl ?_
          refine y_jn (C := fun (j9 : mH → Option ((Int32 ⊕ Nat) × mH)) => ∀ (h116 : mH), mY l Θ d M_W_areShipsRight 516 [some (.ref a0), none, none, none, none, none, none, none, none, none] [] h116 (tX vI) (j9 h116)) (fun h116 => ?_) (fun j115 Hj115 => ?_)
          · refine y_aload_n d_W_areShipsRight_516 rfl ?_
            refine y_gO (fun fs1 g1 => y_cI (c_vi (rest := []) d_W_areShipsRight_517 k_F_isConsistent s_W_252 (Or.inl ⟨_, _, _, g1, rfl, rfl⟩) rfl rfl (Nat.le_of_ble_eq_true rfl) (Nat.le_trans (Nat.le_of_ble_eq_true rfl : 12 + 1 ≤ 13) hD) (S_F_isConsistent hfl (Nat.le_refl _) h116 a0)) (fun v118 h117 => ?_))
            refine y_if_eq (tgt := 527) d_W_areShipsRight_520 (by decide) ?_ ?_
            · refine y_iconst (v := (J 0)) d_W_areShipsRight_527 rfl ?_
              exact y_retIX d_W_areShipsRight_528 rfl (by decide +kernel)
            · refine y_iconst (v := (J 1)) d_W_areShipsRight_523 rfl ?_
              refine y_goto (tgt := 528) d_W_areShipsRight_524 (by decide) ?_
              exact y_retIX d_W_areShipsRight_528 rfl (by decide +kernel)
          · refine y_if_eq (tgt := 516) d_W_areShipsRight_500 (by decide) ?_ ?_
            · exact y_wk (loc2 := [some (.ref a0), none, none, none, none, none, none, none, none, none]) ⟨rfl, trivial⟩ (Hj115 h113)
            · refine y_aload_n d_W_areShipsRight_503 rfl ?_
              refine y_gO (fun fs1 g1 => y_xD (c_vi (rest := []) d_W_areShipsRight_504 k_F_meanDirt s_W_248 (Or.inl ⟨_, _, _, g1, rfl, rfl⟩) rfl rfl (Nat.le_of_ble_eq_true rfl) (Nat.le_trans (Nat.le_of_ble_eq_true rfl : 6 + 1 ≤ 13) hD) (S_F_meanDirt hfl (Nat.le_refl _) h113 a0)) (fun v120 h119 => ?_) (fun _ _ => y_hp rfl))
              refine y_iload_n d_W_areShipsRight_507 rfl ?_
              refine y_i2d d_W_areShipsRight_508 ?_
              refine y_iload_n d_W_areShipsRight_509 rfl ?_
              refine y_i2d d_W_areShipsRight_510 ?_
              refine y_gd (fun hn => y_ddiv d_W_areShipsRight_511 hn ?_)
              refine y_dcmp (v := (Op.cmpValue (FP.dcmp v120 (FP.ddiv (FP.i2d u88) (FP.i2d v2))) .l)) d_W_areShipsRight_512 rfl ?_
              refine y_if_ne (tgt := 527) d_W_areShipsRight_513 (by decide) ?_ ?_
              · refine y_iconst (v := (J 0)) d_W_areShipsRight_527 rfl ?_
                exact y_retIX d_W_areShipsRight_528 rfl (by decide +kernel)
              · exact y_wk (loc2 := [some (.ref a0), none, none, none, none, none, none, none, none, none]) ⟨rfl, trivial⟩ (Hj115 h119)
  · refine y_jn (C := fun (j9 : mH → Option ((Int32 ⊕ Nat) × mH)) => ∀ (h122 : mH), mY l Θ d M_W_areShipsRight 94 [some (.ref a0), some (.int v2), some (.int (J 0)), some (.int (J 0)), none, none, none, none, none, none] [] h122 (tX vI) (j9 h122)) (fun h122 => ?_) (fun j121 Hj121 => ?_)
    · refine y_iconst (v := (J 0)) d_W_areShipsRight_94 rfl ?_
      exact Hj3 h122 (J 0)
    · refine y_icmp_gt (tgt := 94) d_W_areShipsRight_12 (by decide) ?_ ?_
      · exact Hj121 h1
      · refine y_aload_n d_W_areShipsRight_15 rfl ?_
        refine y_iconst (v := (J 0)) d_W_areShipsRight_16 rfl ?_
        refine y_iload_n d_W_areShipsRight_17 rfl ?_
        refine y_cI (c_st (rest := []) d_W_areShipsRight_18 k_W_ask s_W_162 rfl rfl (Nat.le_of_ble_eq_true rfl) (Nat.le_trans (Nat.le_of_ble_eq_true rfl : 10 + 1 ≤ 13) hD) (S_W_ask hfl (Nat.le_refl _) h1 a0 (J 0) v2)) (fun v124 h123 => ?_)
        refine y_sipush (v := (J (-2002))) d_W_areShipsRight_21 (by decide +kernel) ?_
        refine y_icmp_ne (tgt := 94) d_W_areShipsRight_24 (by decide) ?_ ?_
        · exact Hj121 h123
        · refine y_aload_n d_W_areShipsRight_27 rfl ?_
          refine y_iconst (v := (J 0)) d_W_areShipsRight_28 rfl ?_
          refine y_iconst (v := (J (-1))) d_W_areShipsRight_29 rfl ?_
          refine y_cI (c_st (rest := []) d_W_areShipsRight_30 k_W_ask s_W_162 rfl rfl (Nat.le_of_ble_eq_true rfl) (Nat.le_trans (Nat.le_of_ble_eq_true rfl : 10 + 1 ≤ 13) hD) (S_W_ask hfl (Nat.le_refl _) h123 a0 (J 0) (J (-1)))) (fun v126 h125 => ?_)
          refine y_sipush (v := (J (-2002))) d_W_areShipsRight_33 (by decide +kernel) ?_
          refine y_icmp_ne (tgt := 94) d_W_areShipsRight_36 (by decide) ?_ ?_
          · exact Hj121 h125
          · refine y_aload_n d_W_areShipsRight_39 rfl ?_
            refine y_bipush (v := (J 10)) d_W_areShipsRight_40 (by decide +kernel) ?_
            refine y_iload_n d_W_areShipsRight_42 rfl ?_
            refine y_cI (c_st (rest := []) d_W_areShipsRight_43 k_W_ask s_W_162 rfl rfl (Nat.le_of_ble_eq_true rfl) (Nat.le_trans (Nat.le_of_ble_eq_true rfl : 10 + 1 ≤ 13) hD) (S_W_ask hfl (Nat.le_refl _) h125 a0 (J 10) v2)) (fun v128 h127 => ?_)
            refine y_sipush (v := (J (-2002))) d_W_areShipsRight_46 (by decide +kernel) ?_
            refine y_icmp_ne (tgt := 94) d_W_areShipsRight_49 (by decide) ?_ ?_
            · exact Hj121 h127
            · refine y_aload_n d_W_areShipsRight_52 rfl ?_
              refine y_bipush (v := (J 10)) d_W_areShipsRight_53 (by decide +kernel) ?_
              refine y_iconst (v := (J (-1))) d_W_areShipsRight_55 rfl ?_
              refine y_cI (c_st (rest := []) d_W_areShipsRight_56 k_W_ask s_W_162 rfl rfl (Nat.le_of_ble_eq_true rfl) (Nat.le_trans (Nat.le_of_ble_eq_true rfl : 10 + 1 ≤ 13) hD) (S_W_ask hfl (Nat.le_refl _) h127 a0 (J 10) (J (-1)))) (fun v130 h129 => ?_)
              refine y_sipush (v := (J (-2002))) d_W_areShipsRight_59 (by decide +kernel) ?_
              refine y_icmp_ne (tgt := 94) d_W_areShipsRight_62 (by decide) ?_ ?_
              · exact Hj121 h129
              · refine y_aload_n d_W_areShipsRight_65 rfl ?_
                refine y_bipush (v := (J 13)) d_W_areShipsRight_66 (by decide +kernel) ?_
                refine y_iconst (v := (J (-1))) d_W_areShipsRight_68 rfl ?_
                refine y_cI (c_st (rest := []) d_W_areShipsRight_69 k_W_ask s_W_162 rfl rfl (Nat.le_of_ble_eq_true rfl) (Nat.le_trans (Nat.le_of_ble_eq_true rfl : 10 + 1 ≤ 13) hD) (S_W_ask hfl (Nat.le_refl _) h129 a0 (J 13) (J (-1)))) (fun v132 h131 => ?_)
                refine y_sipush (v := (J (-2004))) d_W_areShipsRight_72 (by decide +kernel) ?_
                refine y_icmp_ne (tgt := 94) d_W_areShipsRight_75 (by decide) ?_ ?_
                · exact Hj121 h131
                · refine y_aload_n d_W_areShipsRight_78 rfl ?_
                  refine y_iconst (v := (J 5)) d_W_areShipsRight_79 rfl ?_
                  refine y_iconst (v := (J (-1))) d_W_areShipsRight_80 rfl ?_
                  refine y_cI (c_st (rest := []) d_W_areShipsRight_81 k_W_ask s_W_162 rfl rfl (Nat.le_of_ble_eq_true rfl) (Nat.le_trans (Nat.le_of_ble_eq_true rfl : 10 + 1 ≤ 13) hD) (S_W_ask hfl (Nat.le_refl _) h131 a0 (J 5) (J (-1)))) (fun v134 h133 => ?_)
                  refine y_sipush (v := (J (-2004))) d_W_areShipsRight_84 (by decide +kernel) ?_
                  refine y_icmp_ne (tgt := 94) d_W_areShipsRight_87 (by decide) ?_ ?_
                  · exact Hj121 h133
                  · refine y_iconst (v := (J 1)) d_W_areShipsRight_90 rfl ?_
                    refine y_goto (tgt := 95) d_W_areShipsRight_91 (by decide) ?_
                    exact Hj3 h133 (J 1)
noncomputable def B_W_lengthOfWaiting_31 (Θ : mW) (N : Nat) (K70 : mH → Option ((Int32 ⊕ Nat) × mH)) (f0_ : Nat) (f1_ : Int32) (f3_ : Int32) (f4_ : Int32) (rc : mH → Int32 → Option ((Int32 ⊕ Nat) × mH)) (h : mH) (v5_ : Int32) : Option ((Int32 ⊕ Nat) × mH) :=
  (if f4_ = f1_ then (K70 h) else (gO Θ h 0 f0_ (bx (P_F_isInDock Θ N h f0_ f4_) (fun v10 h9 => (if v10 = 0 then (if v5_ ≤ 0 then (K70 h9) else (gO Θ h9 0 f0_ (bx (P_F_pay Θ N h9 f0_ f4_ (mnI (J 999) v5_)) (fun v12 h11 => (rc h11 v12)) (fun n9 h9 => xp n9 h9)))) else (K70 h9))) (fun n9 h9 => xp n9 h9))))
noncomputable def P_W_lengthOfWaiting_31 (Θ : mW) (N : Nat) (K70 : mH → Option ((Int32 ⊕ Nat) × mH)) (f0_ : Nat) (f1_ : Int32) (f3_ : Int32) (f4_ : Int32) : Nat → mH → Int32 → Option ((Int32 ⊕ Nat) × mH) :=
  lp (fun _ _ => none) (B_W_lengthOfWaiting_31 Θ N K70 f0_ f1_ f3_ f4_)
noncomputable def B_W_lengthOfWaiting_12 (Θ : mW) (N : Nat) (K103 : mH → Option ((Int32 ⊕ Nat) × mH)) (f0_ : Nat) (f1_ : Int32) (rc : mH → Int32 → Option ((Int32 ⊕ Nat) × mH)) (h : mH) (v3_ : Int32) : Option ((Int32 ⊕ Nat) × mH) :=
  (if v3_ < 0 then (K103 h) else (gO Θ h 0 f0_ (bx (P_F_shipAt Θ N h f0_ v3_) (fun v6 h5 => (gO Θ h5 0 f0_ (bx (P_F_billOf Θ N h5 f0_ v6) (fun v8 h7 => (P_W_lengthOfWaiting_31 Θ N (fun h13 => (jn (fun (h15 : mH) (s16 : Int32) => (rc h15 (v3_ + (J (-1))))) (fun j14 => (jn (fun (h18 : mH) => (j14 h18 (J 0))) (fun j17 => (if v6 = f1_ then (j17 h13) else (gO Θ h13 0 f0_ (bx (P_F_isInDock Θ N h13 f0_ v6) (fun v20 h19 => (if v20 = 0 then (gO Θ h19 0 f0_ (bx (P_F_removeShip Θ N h19 f0_ v6) (fun v22 h21 => (j14 h21 v22)) (fun n9 h9 => xp n9 h9))) else (j17 h19))) (fun n9 h9 => xp n9 h9))))))))) f0_ f1_ v3_ v6 N h7 v8)) (fun n9 h9 => xp n9 h9)))) (fun n9 h9 => xp n9 h9))))
noncomputable def P_W_lengthOfWaiting_12 (Θ : mW) (N : Nat) (K103 : mH → Option ((Int32 ⊕ Nat) × mH)) (f0_ : Nat) (f1_ : Int32) : Nat → mH → Int32 → Option ((Int32 ⊕ Nat) × mH) :=
  lp (fun _ _ => none) (B_W_lengthOfWaiting_12 Θ N K103 f0_ f1_)
noncomputable def P_W_lengthOfWaiting (Θ : mW) (N : Nat) (h : mH) (a0 : Nat) (a1 : Int32) : Option ((Int32 ⊕ Nat) × mH) :=
  (gO Θ h 0 a0 (bc (P_F_save Θ N h a0) (fun v2 h1 => (gO Θ h1 0 a0 (bc (P_F_shipCount Θ N h1 a0) (fun v4 h3 => (P_W_lengthOfWaiting_12 Θ N (fun h23 => (gO Θ h23 0 a0 (bc (P_F_mostFittingMetres Θ N h23 a0) (fun v25 h24 => (gO Θ h24 0 a0 (bx (P_F_restore Θ N h24 a0) (fun v27 h26 => (some (.inl v25, h26))) (fun n9 h9 => xp n9 h9))))))) a0 a1 N h3 (v4 - (J 1)))))))))
theorem SB_W_lengthOfWaiting_31 (hfl : HF l Θ) (hD : 9 ≤ d) {K70 : mH → Option ((Int32 ⊕ Nat) × mH)} {f0_ : Nat} {f1_ : Int32} {f3_ : Int32} {f4_ : Int32}  (hK70 : ∀ (h : mH), mY l Θ d M_W_lengthOfWaiting 70 [some (.ref f0_), some (.int f1_), none, some (.int f3_), some (.int f4_), none, none] [] h (tX vI) (K70 h)) (rc : mH → Int32 → Option ((Int32 ⊕ Nat) × mH)) (ih : ∀ (h : mH) (v5_ : Int32), mY l Θ d M_W_lengthOfWaiting 31 [some (.ref f0_), some (.int f1_), none, some (.int f3_), some (.int f4_), some (.int v5_), none] [] h (tX vI) (rc h v5_)) : ∀ (h : mH) (v5_ : Int32), mY l Θ d M_W_lengthOfWaiting 31 [some (.ref f0_), some (.int f1_), none, some (.int f3_), some (.int f4_), some (.int v5_), none] [] h (tX vI) (B_W_lengthOfWaiting_31 Θ N K70 f0_ f1_ f3_ f4_ rc h v5_) := by
  intro h v5_
  unfold B_W_lengthOfWaiting_31
  refine y_iload d_W_lengthOfWaiting_31 rfl ?_
  refine y_iload_n d_W_lengthOfWaiting_33 rfl ?_
  refine y_icmp_eq (tgt := 70) d_W_lengthOfWaiting_34 (by decide) ?_ ?_
  · exact y_wk (loc2 := [some (.ref f0_), some (.int f1_), none, some (.int f3_), some (.int f4_), none, none]) ⟨rfl, ⟨rfl, ⟨rfl, ⟨rfl, trivial⟩⟩⟩⟩ (hK70 h)
  · refine y_aload_n d_W_lengthOfWaiting_37 rfl ?_
    refine y_iload d_W_lengthOfWaiting_38 rfl ?_
    refine y_gO (fun fs1 g1 => y_xI (c_vi (rest := []) d_W_lengthOfWaiting_40 k_F_isInDock s_W_239 (Or.inl ⟨_, _, _, g1, rfl, rfl⟩) rfl rfl (Nat.le_of_ble_eq_true rfl) (Nat.le_trans (Nat.le_of_ble_eq_true rfl : 7 + 1 ≤ 9) hD) (S_F_isInDock hfl (Nat.le_refl _) h f0_ f4_)) (fun v10 h9 => ?_) (fun _ _ => y_hp rfl))
    refine y_if_ne (tgt := 70) d_W_lengthOfWaiting_43 (by decide) ?_ ?_
    · exact y_wk (loc2 := [some (.ref f0_), some (.int f1_), none, some (.int f3_), some (.int f4_), none, none]) ⟨rfl, ⟨rfl, ⟨rfl, ⟨rfl, trivial⟩⟩⟩⟩ (hK70 h9)
    · refine y_iload d_W_lengthOfWaiting_46 rfl ?_
      refine y_if_le (tgt := 70) d_W_lengthOfWaiting_48 (by decide) ?_ ?_
      · exact y_wk (loc2 := [some (.ref f0_), some (.int f1_), none, some (.int f3_), some (.int f4_), none, none]) ⟨rfl, ⟨rfl, ⟨rfl, ⟨rfl, trivial⟩⟩⟩⟩ (hK70 h9)
      · refine y_aload_n d_W_lengthOfWaiting_51 rfl ?_
        refine y_iload d_W_lengthOfWaiting_52 rfl ?_
        refine y_sipush (v := (J 999)) d_W_lengthOfWaiting_54 (by decide +kernel) ?_
        refine y_iload d_W_lengthOfWaiting_57 rfl ?_
        refine y_mmin d_W_lengthOfWaiting_59 s_W_274.1 s_W_274.2 k_MA_min.2.2.2.2.2 (mG (2, 239) (by decide +kernel)) (Nat.le_of_ble_eq_true rfl) (Nat.le_trans (Nat.le_of_ble_eq_true rfl) hD) ?_
        refine y_gO (fun fs1 g1 => y_xI (c_vi (rest := []) d_W_lengthOfWaiting_62 k_F_pay s_W_56 (Or.inl ⟨_, _, _, g1, rfl, rfl⟩) rfl rfl (Nat.le_of_ble_eq_true rfl) (Nat.le_trans (Nat.le_of_ble_eq_true rfl : 8 + 1 ≤ 9) hD) (S_F_pay hfl (Nat.le_refl _) h9 f0_ f4_ (mnI (J 999) v5_))) (fun v12 h11 => ?_) (fun _ _ => y_hp rfl))
        refine y_istore (loc2 := [some (.ref f0_), some (.int f1_), none, some (.int f3_), some (.int f4_), some (.int v12), none]) d_W_lengthOfWaiting_65 (Nat.le_of_ble_eq_true rfl) rfl rfl ?_
        refine y_goto (tgt := 31) d_W_lengthOfWaiting_67 (by decide) ?_
        exact ih h11 v12
theorem S_W_lengthOfWaiting_31 (hfl : HF l Θ) (hD : 9 ≤ d) {K70 : mH → Option ((Int32 ⊕ Nat) × mH)} {f0_ : Nat} {f1_ : Int32} {f3_ : Int32} {f4_ : Int32}  (hK70 : ∀ (h : mH), mY l Θ d M_W_lengthOfWaiting 70 [some (.ref f0_), some (.int f1_), none, some (.int f3_), some (.int f4_), none, none] [] h (tX vI) (K70 h)) : ∀ (n : Nat) (h : mH) (v5_ : Int32), mY l Θ d M_W_lengthOfWaiting 31 [some (.ref f0_), some (.int f1_), none, some (.int f3_), some (.int f4_), some (.int v5_), none] [] h (tX vI) (P_W_lengthOfWaiting_31 Θ N K70 f0_ f1_ f3_ f4_ n h v5_) :=
  fun n => lp_all (C := fun (rc : mH → Int32 → Option ((Int32 ⊕ Nat) × mH)) => ∀ (h : mH) (v5_ : Int32), mY l Θ d M_W_lengthOfWaiting 31 [some (.ref f0_), some (.int f1_), none, some (.int f3_), some (.int f4_), some (.int v5_), none] [] h (tX vI) (rc h v5_)) (fun _ _ => y_none) (fun rc ih => SB_W_lengthOfWaiting_31 hfl hD hK70 rc ih) n
theorem SB_W_lengthOfWaiting_12 (hfl : HF l Θ) (hD : 9 ≤ d) {K103 : mH → Option ((Int32 ⊕ Nat) × mH)} {f0_ : Nat} {f1_ : Int32}  (hK103 : ∀ (h : mH), mY l Θ d M_W_lengthOfWaiting 103 [some (.ref f0_), none, none, none, none, none, none] [] h (tX vI) (K103 h)) (rc : mH → Int32 → Option ((Int32 ⊕ Nat) × mH)) (ih : ∀ (h : mH) (v3_ : Int32), mY l Θ d M_W_lengthOfWaiting 12 [some (.ref f0_), some (.int f1_), none, some (.int v3_), none, none, none] [] h (tX vI) (rc h v3_)) : ∀ (h : mH) (v3_ : Int32), mY l Θ d M_W_lengthOfWaiting 12 [some (.ref f0_), some (.int f1_), none, some (.int v3_), none, none, none] [] h (tX vI) (B_W_lengthOfWaiting_12 Θ N K103 f0_ f1_ rc h v3_) := by
  intro h v3_
  unfold B_W_lengthOfWaiting_12
  refine y_iload_n d_W_lengthOfWaiting_12 rfl ?_
  refine y_if_lt (tgt := 103) d_W_lengthOfWaiting_13 (by decide) ?_ ?_
  · exact y_wk (loc2 := [some (.ref f0_), none, none, none, none, none, none]) ⟨rfl, trivial⟩ (hK103 h)
  · refine y_aload_n d_W_lengthOfWaiting_16 rfl ?_
    refine y_iload_n d_W_lengthOfWaiting_17 rfl ?_
    refine y_gO (fun fs1 g1 => y_xI (c_vi (rest := []) d_W_lengthOfWaiting_18 k_F_shipAt s_W_75 (Or.inl ⟨_, _, _, g1, rfl, rfl⟩) rfl rfl (Nat.le_of_ble_eq_true rfl) (Nat.le_trans (Nat.le_of_ble_eq_true rfl : 6 + 1 ≤ 9) hD) (S_F_shipAt hfl (Nat.le_refl _) h f0_ v3_)) (fun v6 h5 => ?_) (fun _ _ => y_hp rfl))
    refine y_istore (loc2 := [some (.ref f0_), some (.int f1_), none, some (.int v3_), some (.int v6), none, none]) d_W_lengthOfWaiting_21 (Nat.le_of_ble_eq_true rfl) rfl rfl ?_
    refine y_aload_n d_W_lengthOfWaiting_23 rfl ?_
    refine y_iload d_W_lengthOfWaiting_24 rfl ?_
    refine y_gO (fun fs1 g1 => y_xI (c_vi (rest := []) d_W_lengthOfWaiting_26 k_F_billOf s_W_142 (Or.inl ⟨_, _, _, g1, rfl, rfl⟩) rfl rfl (Nat.le_of_ble_eq_true rfl) (Nat.le_trans (Nat.le_of_ble_eq_true rfl : 7 + 1 ≤ 9) hD) (S_F_billOf hfl (Nat.le_refl _) h5 f0_ v6)) (fun v8 h7 => ?_) (fun _ _ => y_hp rfl))
    refine y_istore (loc2 := [some (.ref f0_), some (.int f1_), none, some (.int v3_), some (.int v6), some (.int v8), none]) d_W_lengthOfWaiting_29 (Nat.le_of_ble_eq_true rfl) rfl rfl ?_
    refine S_W_lengthOfWaiting_31 hfl hD (fun h13 => ?_) N h7 v8
    refine y_iload d_W_lengthOfWaiting_70 rfl ?_
    refine y_iload_n d_W_lengthOfWaiting_72 rfl ?_
    refine y_jn (C := fun (j9 : mH → Int32 → Option ((Int32 ⊕ Nat) × mH)) => ∀ (h15 : mH) (s16 : Int32), mY l Θ d M_W_lengthOfWaiting 95 [some (.ref f0_), some (.int f1_), none, some (.int v3_), none, none, none] [.int s16] h15 (tX vI) (j9 h15 s16)) (fun h15 s16 => ?_) (fun j14 Hj14 => ?_)
    · refine y_istore (loc2 := [some (.ref f0_), some (.int f1_), none, some (.int v3_), none, none, some (.int s16)]) d_W_lengthOfWaiting_95 (Nat.le_of_ble_eq_true rfl) rfl rfl ?_
      refine y_iinc (v := (v3_ + (J (-1)))) (loc2 := [some (.ref f0_), some (.int f1_), none, some (.int (v3_ + (J (-1)))), none, none, some (.int s16)]) d_W_lengthOfWaiting_97 rfl rfl (Nat.le_of_ble_eq_true rfl) rfl rfl ?_
      refine y_goto (tgt := 12) d_W_lengthOfWaiting_100 (by decide) ?_
      exact y_wk (loc2 := [some (.ref f0_), some (.int f1_), none, some (.int (v3_ + (J (-1)))), none, none, none]) ⟨rfl, ⟨rfl, ⟨rfl, trivial⟩⟩⟩ (ih h15 (v3_ + (J (-1))))
    · refine y_jn (C := fun (j9 : mH → Option ((Int32 ⊕ Nat) × mH)) => ∀ (h18 : mH), mY l Θ d M_W_lengthOfWaiting 85 [some (.ref f0_), some (.int f1_), none, some (.int v3_), none, none, none] [] h18 (tX vI) (j9 h18)) (fun h18 => ?_) (fun j17 Hj17 => ?_)
      · refine y_iconst (v := (J 0)) d_W_lengthOfWaiting_85 rfl ?_
        refine y_goto (tgt := 95) d_W_lengthOfWaiting_86 (by decide) ?_
        exact Hj14 h18 (J 0)
      · refine y_icmp_eq (tgt := 85) d_W_lengthOfWaiting_73 (by decide) ?_ ?_
        · exact y_wk (loc2 := [some (.ref f0_), some (.int f1_), none, some (.int v3_), none, none, none]) ⟨rfl, ⟨rfl, ⟨rfl, trivial⟩⟩⟩ (Hj17 h13)
        · refine y_aload_n d_W_lengthOfWaiting_76 rfl ?_
          refine y_iload d_W_lengthOfWaiting_77 rfl ?_
          refine y_gO (fun fs1 g1 => y_xI (c_vi (rest := []) d_W_lengthOfWaiting_79 k_F_isInDock s_W_239 (Or.inl ⟨_, _, _, g1, rfl, rfl⟩) rfl rfl (Nat.le_of_ble_eq_true rfl) (Nat.le_trans (Nat.le_of_ble_eq_true rfl : 7 + 1 ≤ 9) hD) (S_F_isInDock hfl (Nat.le_refl _) h13 f0_ v6)) (fun v20 h19 => ?_) (fun _ _ => y_hp rfl))
          refine y_if_eq (tgt := 89) d_W_lengthOfWaiting_82 (by decide) ?_ ?_
          · refine y_aload_n d_W_lengthOfWaiting_89 rfl ?_
            refine y_iload d_W_lengthOfWaiting_90 rfl ?_
            refine y_gO (fun fs1 g1 => y_xI (c_vi (rest := []) d_W_lengthOfWaiting_92 k_F_removeShip s_W_21 (Or.inl ⟨_, _, _, g1, rfl, rfl⟩) rfl rfl (Nat.le_of_ble_eq_true rfl) (Nat.le_trans (Nat.le_of_ble_eq_true rfl : 8 + 1 ≤ 9) hD) (S_F_removeShip hfl (Nat.le_refl _) h19 f0_ v6)) (fun v22 h21 => ?_) (fun _ _ => y_hp rfl))
            exact y_wk (loc2 := [some (.ref f0_), some (.int f1_), none, some (.int v3_), none, none, none]) ⟨rfl, ⟨rfl, ⟨rfl, trivial⟩⟩⟩ (Hj14 h21 v22)
          · exact y_wk (loc2 := [some (.ref f0_), some (.int f1_), none, some (.int v3_), none, none, none]) ⟨rfl, ⟨rfl, ⟨rfl, trivial⟩⟩⟩ (Hj17 h19)
theorem S_W_lengthOfWaiting_12 (hfl : HF l Θ) (hD : 9 ≤ d) {K103 : mH → Option ((Int32 ⊕ Nat) × mH)} {f0_ : Nat} {f1_ : Int32}  (hK103 : ∀ (h : mH), mY l Θ d M_W_lengthOfWaiting 103 [some (.ref f0_), none, none, none, none, none, none] [] h (tX vI) (K103 h)) : ∀ (n : Nat) (h : mH) (v3_ : Int32), mY l Θ d M_W_lengthOfWaiting 12 [some (.ref f0_), some (.int f1_), none, some (.int v3_), none, none, none] [] h (tX vI) (P_W_lengthOfWaiting_12 Θ N K103 f0_ f1_ n h v3_) :=
  fun n => lp_all (C := fun (rc : mH → Int32 → Option ((Int32 ⊕ Nat) × mH)) => ∀ (h : mH) (v3_ : Int32), mY l Θ d M_W_lengthOfWaiting 12 [some (.ref f0_), some (.int f1_), none, some (.int v3_), none, none, none] [] h (tX vI) (rc h v3_)) (fun _ _ => y_none) (fun rc ih => SB_W_lengthOfWaiting_12 hfl hD hK103 rc ih) n
theorem S_W_lengthOfWaiting (hfl : HF l Θ) (hD : 9 ≤ d) (h : mH) (a0 : Nat) (a1 : Int32) : mMs l Θ d M_W_lengthOfWaiting [.ref a0, .int a1] h (tX vI) (P_W_lengthOfWaiting Θ N h a0 a1) := by
  refine mMs.of hfl (by decide +kernel) rfl (Nat.le_of_ble_eq_true rfl) (loc := [some (.ref a0), some (.int a1), none, none, none, none, none]) rfl ?_
  unfold P_W_lengthOfWaiting
  refine y_aload_n d_W_lengthOfWaiting_0 rfl ?_
  refine y_gO (fun fs1 g1 => y_cI (c_vi (rest := []) d_W_lengthOfWaiting_1 k_F_save s_W_271 (Or.inl ⟨_, _, _, g1, rfl, rfl⟩) rfl rfl (Nat.le_of_ble_eq_true rfl) (Nat.le_trans (Nat.le_of_ble_eq_true rfl : 5 + 1 ≤ 9) hD) (S_F_save hfl (Nat.le_refl _) h a0)) (fun v2 h1 => ?_))
  refine y_istore_n (loc2 := [some (.ref a0), some (.int a1), some (.int v2), none, none, none, none]) d_W_lengthOfWaiting_4 (Nat.le_of_ble_eq_true rfl) rfl rfl ?_
  refine y_aload_n d_W_lengthOfWaiting_5 rfl ?_
  refine y_gO (fun fs1 g1 => y_cI (c_vi (rest := []) d_W_lengthOfWaiting_6 k_F_shipCount s_W_135 (Or.inl ⟨_, _, _, g1, rfl, rfl⟩) rfl rfl (Nat.le_of_ble_eq_true rfl) (Nat.le_trans (Nat.le_of_ble_eq_true rfl : 1 + 1 ≤ 9) hD) (S_F_shipCount hfl (Nat.le_refl _) h1 a0)) (fun v4 h3 => ?_))
  refine y_iconst (v := (J 1)) d_W_lengthOfWaiting_9 rfl ?_
  refine y_isub (v := (v4 - (J 1))) d_W_lengthOfWaiting_10 rfl ?_
  refine y_istore_n (loc2 := [some (.ref a0), some (.int a1), some (.int v2), some (.int (v4 - (J 1))), none, none, none]) d_W_lengthOfWaiting_11 (Nat.le_of_ble_eq_true rfl) rfl rfl ?_
  refine y_wk (loc2 := [some (.ref a0), some (.int a1), none, some (.int (v4 - (J 1))), none, none, none]) ⟨rfl, ⟨rfl, ⟨rfl, trivial⟩⟩⟩ ?_
  refine S_W_lengthOfWaiting_12 hfl hD (fun h23 => ?_) N h3 (v4 - (J 1))
  refine y_aload_n d_W_lengthOfWaiting_103 rfl ?_
  refine y_gO (fun fs1 g1 => y_cI (c_vi (rest := []) d_W_lengthOfWaiting_104 k_F_mostFittingMetres s_W_268 (Or.inl ⟨_, _, _, g1, rfl, rfl⟩) rfl rfl (Nat.le_of_ble_eq_true rfl) (Nat.le_trans (Nat.le_of_ble_eq_true rfl : 5 + 1 ≤ 9) hD) (S_F_mostFittingMetres hfl (Nat.le_refl _) h23 a0)) (fun v25 h24 => ?_))
  refine y_istore_n (loc2 := [some (.ref a0), none, none, some (.int v25), none, none, none]) d_W_lengthOfWaiting_107 (Nat.le_of_ble_eq_true rfl) rfl rfl ?_
  refine y_aload_n d_W_lengthOfWaiting_108 rfl ?_
  refine y_gO (fun fs1 g1 => y_xI (c_vi (rest := []) d_W_lengthOfWaiting_109 k_F_restore s_W_277 (Or.inl ⟨_, _, _, g1, rfl, rfl⟩) rfl rfl (Nat.le_of_ble_eq_true rfl) (Nat.le_trans (Nat.le_of_ble_eq_true rfl : 6 + 1 ≤ 9) hD) (S_F_restore hfl (Nat.le_refl _) h24 a0)) (fun v27 h26 => ?_) (fun _ _ => y_hp rfl))
  refine y_istore_n (loc2 := [some (.ref a0), none, some (.int v27), some (.int v25), none, none, none]) d_W_lengthOfWaiting_112 (Nat.le_of_ble_eq_true rfl) rfl rfl ?_
  refine y_iload_n d_W_lengthOfWaiting_113 rfl ?_
  exact y_retIX d_W_lengthOfWaiting_114 rfl rfl
noncomputable def B_W_most_26 (Θ : mW) (N : Nat) (K108 : mH → Int32 → Option (Int32 × mH)) (rec : mH → Nat → Nat → Int32 → Nat → Int32 → Int32 → Option (Int32 × mH)) (f0_ : Nat) (f1_ : Nat) (f2_ : Int32) (f3_ : Nat) (f4_ : Int32) (f5_ : Int32) (rc : mH → Int32 → Int32 → Option (Int32 × mH)) (h : mH) (v6_ : Int32) (v7_ : Int32) : Option (Int32 × mH) :=
  (if f4_ ≤ v7_ then (K108 h v6_) else (bo (aR Θ h 0 f1_ f2_) (fun v4 => (jn (fun (h6 : mH) (u7 : Int32) => (rc h6 u7 (v7_ + (J 1)))) (fun j5 => (if v4 ≤ 0 then (j5 h v6_) else (bo (aR Θ h 0 f3_ v7_) (fun v8 => (bo (aR Θ h 0 f1_ f2_) (fun v9 => (if v8 < v9 then (j5 h v6_) else (bo (aR Θ h 0 f3_ v7_) (fun v10 => (bo (aR Θ h 0 f1_ f2_) (fun v11 => (bo (aW Θ h 0 f3_ v7_ (v10 - v11)) (fun h12 => (jn (fun (h14 : mH) (s15 : Int32) => (bc (rec h14 f0_ f1_ (f2_ + (J 1)) f3_ f4_ f5_) (fun v17 h16 => (bo (aR Θ h16 0 f3_ v7_) (fun v18 => (bo (aR Θ h16 0 f1_ f2_) (fun v19 => (bo (aW Θ h16 0 f3_ v7_ (v18 + v19)) (fun h20 => (j5 h20 (mxI v6_ (s15 + v17)))))))))))) (fun j13 => (if f5_ = 0 then (j13 h12 (J 1)) else (bo (aR Θ h12 0 f1_ f2_) (fun v21 => (j13 h12 v21)))))))))))))))))))))))
noncomputable def P_W_most_26 (Θ : mW) (N : Nat) (K108 : mH → Int32 → Option (Int32 × mH)) (rec : mH → Nat → Nat → Int32 → Nat → Int32 → Int32 → Option (Int32 × mH)) (f0_ : Nat) (f1_ : Nat) (f2_ : Int32) (f3_ : Nat) (f4_ : Int32) (f5_ : Int32) : Nat → mH → Int32 → Int32 → Option (Int32 × mH) :=
  lp (fun _ _ _ => none) (B_W_most_26 Θ N K108 rec f0_ f1_ f2_ f3_ f4_ f5_)
noncomputable def R_W_most (Θ : mW) (N : Nat) (rec : mH → Nat → Nat → Int32 → Nat → Int32 → Int32 → Option (Int32 × mH)) (h : mH) (a0 : Nat) (a1 : Nat) (a2 : Int32) (a3 : Nat) (a4 : Int32) (a5 : Int32) : Option (Int32 × mH) :=
  (bo (aN Θ h a1) (fun v1 => (if a2 = v1 then (some ((J 0), h)) else (bc (rec h a0 a1 (a2 + (J 1)) a3 a4 a5) (fun v3 h2 => (P_W_most_26 Θ N (fun h22 u23 => (some (u23, h22))) rec a0 a1 a2 a3 a4 a5 N h2 v3 (J 0)))))))
noncomputable def P_W_most (Θ : mW) (N : Nat) : Nat → mH → Nat → Nat → Int32 → Nat → Int32 → Int32 → Option (Int32 × mH) := lp (fun _ _ _ _ _ _ _ => none) (R_W_most Θ N)
theorem SB_W_most_26 (hfl : HF l Θ) {dr : Nat} (hD : 1 ≤ d) {K108 : mH → Int32 → Option (Int32 × mH)} {rec : mH → Nat → Nat → Int32 → Nat → Int32 → Int32 → Option (Int32 × mH)} (hdr : dr + 1 ≤ d) (ihr : ∀ (h : mH) (a0 : Nat) (a1 : Nat) (a2 : Int32) (a3 : Nat) (a4 : Int32) (a5 : Int32), mMs l Θ dr M_W_most [.ref a0, .ref a1, .int a2, .ref a3, .int a4, .int a5] h (tR vI) (rec h a0 a1 a2 a3 a4 a5)) {f0_ : Nat} {f1_ : Nat} {f2_ : Int32} {f3_ : Nat} {f4_ : Int32} {f5_ : Int32}  (hK108 : ∀ (h : mH) (v6_ : Int32), mY l Θ d M_W_most 108 [none, none, none, none, none, none, some (.int v6_), none] [] h (tR vI) (K108 h v6_)) (rc : mH → Int32 → Int32 → Option (Int32 × mH)) (ih : ∀ (h : mH) (v6_ : Int32) (v7_ : Int32), mY l Θ d M_W_most 26 [some (.ref f0_), some (.ref f1_), some (.int f2_), some (.ref f3_), some (.int f4_), some (.int f5_), some (.int v6_), some (.int v7_)] [] h (tR vI) (rc h v6_ v7_)) : ∀ (h : mH) (v6_ : Int32) (v7_ : Int32), mY l Θ d M_W_most 26 [some (.ref f0_), some (.ref f1_), some (.int f2_), some (.ref f3_), some (.int f4_), some (.int f5_), some (.int v6_), some (.int v7_)] [] h (tR vI) (B_W_most_26 Θ N K108 rec f0_ f1_ f2_ f3_ f4_ f5_ rc h v6_ v7_) := by
  intro h v6_ v7_
  unfold B_W_most_26
  refine y_iload d_W_most_26 rfl ?_
  refine y_iload d_W_most_28 rfl ?_
  refine y_icmp_ge (tgt := 108) d_W_most_30 (by decide) ?_ ?_
  · exact y_wk (loc2 := [none, none, none, none, none, none, some (.int v6_), none]) ⟨rfl, trivial⟩ (hK108 h v6_)
  · refine y_aload_n d_W_most_33 rfl ?_
    refine y_iload_n d_W_most_34 rfl ?_
    refine y_iald d_W_most_35 (fun v4 => ?_)
    refine y_jn (C := fun (j9 : mH → Int32 → Option (Int32 × mH)) => ∀ (h6 : mH) (u7 : Int32), mY l Θ d M_W_most 102 [some (.ref f0_), some (.ref f1_), some (.int f2_), some (.ref f3_), some (.int f4_), some (.int f5_), some (.int u7), some (.int v7_)] [] h6 (tR vI) (j9 h6 u7)) (fun h6 u7 => ?_) (fun j5 Hj5 => ?_)
    · refine y_iinc (v := (v7_ + (J 1))) (loc2 := [some (.ref f0_), some (.ref f1_), some (.int f2_), some (.ref f3_), some (.int f4_), some (.int f5_), some (.int u7), some (.int (v7_ + (J 1)))]) d_W_most_102 rfl rfl (Nat.le_of_ble_eq_true rfl) rfl rfl ?_
      refine y_goto (tgt := 26) d_W_most_105 (by decide) ?_
      exact ih h6 u7 (v7_ + (J 1))
    · refine y_if_le (tgt := 102) d_W_most_36 (by decide) ?_ ?_
      · exact Hj5 h v6_
      · refine y_aload_n d_W_most_39 rfl ?_
        refine y_iload d_W_most_40 rfl ?_
        refine y_iald d_W_most_42 (fun v8 => ?_)
        refine y_aload_n d_W_most_43 rfl ?_
        refine y_iload_n d_W_most_44 rfl ?_
        refine y_iald d_W_most_45 (fun v9 => ?_)
        refine y_icmp_lt (tgt := 102) d_W_most_46 (by decide) ?_ ?_
        · exact Hj5 h v6_
        · refine y_aload_n d_W_most_49 rfl ?_
          refine y_iload d_W_most_50 rfl ?_
          refine y_dup2 d_W_most_52 rfl rfl ?_
          refine y_iald d_W_most_53 (fun v10 => ?_)
          refine y_aload_n d_W_most_54 rfl ?_
          refine y_iload_n d_W_most_55 rfl ?_
          refine y_iald d_W_most_56 (fun v11 => ?_)
          refine y_isub (v := (v10 - v11)) d_W_most_57 rfl ?_
          refine y_iast d_W_most_58 (fun h12 => ?_)
          refine y_iload d_W_most_59 rfl ?_
          refine y_iload d_W_most_61 rfl ?_
          refine y_jn (C := fun (j9 : mH → Int32 → Option (Int32 × mH)) => ∀ (h14 : mH) (s15 : Int32), mY l Θ d M_W_most 73 [some (.ref f0_), some (.ref f1_), some (.int f2_), some (.ref f3_), some (.int f4_), some (.int f5_), none, some (.int v7_)] [.int s15, .int v6_] h14 (tR vI) (j9 h14 s15)) (fun h14 s15 => ?_) (fun j13 Hj13 => ?_)
          · refine y_aload_n d_W_most_73 rfl ?_
            refine y_aload_n d_W_most_74 rfl ?_
            refine y_iload_n d_W_most_75 rfl ?_
            refine y_iconst (v := (J 1)) d_W_most_76 rfl ?_
            refine y_iadd (v := (f2_ + (J 1))) d_W_most_77 rfl ?_
            refine y_aload_n d_W_most_78 rfl ?_
            refine y_iload d_W_most_79 rfl ?_
            refine y_iload d_W_most_81 rfl ?_
            refine y_cI (c_st (rest := [.int s15, .int v6_]) d_W_most_83 k_W_most s_W_255 rfl rfl (Nat.le_of_ble_eq_true rfl) hdr (ihr h14 f0_ f1_ (f2_ + (J 1)) f3_ f4_ f5_)) (fun v17 h16 => ?_)
            refine y_iadd (v := (s15 + v17)) d_W_most_86 rfl ?_
            refine y_mmax d_W_most_87 s_W_145.1 s_W_145.2 k_MA_max.2.2.2.2.2 (mG (3, 185) (by decide +kernel)) (Nat.le_of_ble_eq_true rfl) (Nat.le_trans (Nat.le_of_ble_eq_true rfl) hD) ?_
            refine y_istore (loc2 := [some (.ref f0_), some (.ref f1_), some (.int f2_), some (.ref f3_), some (.int f4_), some (.int f5_), some (.int (mxI v6_ (s15 + v17))), some (.int v7_)]) d_W_most_90 (Nat.le_of_ble_eq_true rfl) rfl rfl ?_
            refine y_aload_n d_W_most_92 rfl ?_
            refine y_iload d_W_most_93 rfl ?_
            refine y_dup2 d_W_most_95 rfl rfl ?_
            refine y_iald d_W_most_96 (fun v18 => ?_)
            refine y_aload_n d_W_most_97 rfl ?_
            refine y_iload_n d_W_most_98 rfl ?_
            refine y_iald d_W_most_99 (fun v19 => ?_)
            refine y_iadd (v := (v18 + v19)) d_W_most_100 rfl ?_
            refine y_iast d_W_most_101 (fun h20 => ?_)
            exact Hj5 h20 (mxI v6_ (s15 + v17))
          · refine y_if_eq (tgt := 72) d_W_most_63 (by decide) ?_ ?_
            · refine y_iconst (v := (J 1)) d_W_most_72 rfl ?_
              exact y_wk (loc2 := [some (.ref f0_), some (.ref f1_), some (.int f2_), some (.ref f3_), some (.int f4_), some (.int f5_), none, some (.int v7_)]) ⟨rfl, ⟨rfl, ⟨rfl, ⟨rfl, ⟨rfl, ⟨rfl, ⟨rfl, trivial⟩⟩⟩⟩⟩⟩⟩ (Hj13 h12 (J 1))
            · refine y_aload_n d_W_most_66 rfl ?_
              refine y_iload_n d_W_most_67 rfl ?_
              refine y_iald d_W_most_68 (fun v21 => ?_)
              refine y_goto (tgt := 73) d_W_most_69 (by decide) ?_
              exact y_wk (loc2 := [some (.ref f0_), some (.ref f1_), some (.int f2_), some (.ref f3_), some (.int f4_), some (.int f5_), none, some (.int v7_)]) ⟨rfl, ⟨rfl, ⟨rfl, ⟨rfl, ⟨rfl, ⟨rfl, ⟨rfl, trivial⟩⟩⟩⟩⟩⟩⟩ (Hj13 h12 v21)
theorem S_W_most_26 (hfl : HF l Θ) {dr : Nat} (hD : 1 ≤ d) {K108 : mH → Int32 → Option (Int32 × mH)} {rec : mH → Nat → Nat → Int32 → Nat → Int32 → Int32 → Option (Int32 × mH)} (hdr : dr + 1 ≤ d) (ihr : ∀ (h : mH) (a0 : Nat) (a1 : Nat) (a2 : Int32) (a3 : Nat) (a4 : Int32) (a5 : Int32), mMs l Θ dr M_W_most [.ref a0, .ref a1, .int a2, .ref a3, .int a4, .int a5] h (tR vI) (rec h a0 a1 a2 a3 a4 a5)) {f0_ : Nat} {f1_ : Nat} {f2_ : Int32} {f3_ : Nat} {f4_ : Int32} {f5_ : Int32}  (hK108 : ∀ (h : mH) (v6_ : Int32), mY l Θ d M_W_most 108 [none, none, none, none, none, none, some (.int v6_), none] [] h (tR vI) (K108 h v6_)) : ∀ (n : Nat) (h : mH) (v6_ : Int32) (v7_ : Int32), mY l Θ d M_W_most 26 [some (.ref f0_), some (.ref f1_), some (.int f2_), some (.ref f3_), some (.int f4_), some (.int f5_), some (.int v6_), some (.int v7_)] [] h (tR vI) (P_W_most_26 Θ N K108 rec f0_ f1_ f2_ f3_ f4_ f5_ n h v6_ v7_) :=
  fun n => lp_all (C := fun (rc : mH → Int32 → Int32 → Option (Int32 × mH)) => ∀ (h : mH) (v6_ : Int32) (v7_ : Int32), mY l Θ d M_W_most 26 [some (.ref f0_), some (.ref f1_), some (.int f2_), some (.ref f3_), some (.int f4_), some (.int f5_), some (.int v6_), some (.int v7_)] [] h (tR vI) (rc h v6_ v7_)) (fun _ _ _ => y_none) (fun rc ih => SB_W_most_26 hfl hD hdr ihr hK108 rc ih) n
theorem SR_W_most (hfl : HF l Θ) {dr : Nat} (hD : 1 ≤ d) (hdr : dr + 1 ≤ d) {rec : mH → Nat → Nat → Int32 → Nat → Int32 → Int32 → Option (Int32 × mH)} (ihr : ∀ (h : mH) (a0 : Nat) (a1 : Nat) (a2 : Int32) (a3 : Nat) (a4 : Int32) (a5 : Int32), mMs l Θ dr M_W_most [.ref a0, .ref a1, .int a2, .ref a3, .int a4, .int a5] h (tR vI) (rec h a0 a1 a2 a3 a4 a5)) (h : mH) (a0 : Nat) (a1 : Nat) (a2 : Int32) (a3 : Nat) (a4 : Int32) (a5 : Int32) : mMs l Θ d M_W_most [.ref a0, .ref a1, .int a2, .ref a3, .int a4, .int a5] h (tR vI) (R_W_most Θ N rec h a0 a1 a2 a3 a4 a5) := by
  refine mMs.of hfl (by decide +kernel) rfl (Nat.le_of_ble_eq_true rfl) (loc := [some (.ref a0), some (.ref a1), some (.int a2), some (.ref a3), some (.int a4), some (.int a5), none, none]) rfl ?_
  unfold R_W_most
  refine y_iload_n d_W_most_0 rfl ?_
  refine y_aload_n d_W_most_1 rfl ?_
  refine y_alen d_W_most_2 (fun v1 => ?_)
  refine y_icmp_ne (tgt := 8) d_W_most_3 (by decide) ?_ ?_
  · refine y_aload_n d_W_most_8 rfl ?_
    refine y_aload_n d_W_most_9 rfl ?_
    refine y_iload_n d_W_most_10 rfl ?_
    refine y_iconst (v := (J 1)) d_W_most_11 rfl ?_
    refine y_iadd (v := (a2 + (J 1))) d_W_most_12 rfl ?_
    refine y_aload_n d_W_most_13 rfl ?_
    refine y_iload d_W_most_14 rfl ?_
    refine y_iload d_W_most_16 rfl ?_
    refine y_cI (c_st (rest := []) d_W_most_18 k_W_most s_W_255 rfl rfl (Nat.le_of_ble_eq_true rfl) hdr (ihr h a0 a1 (a2 + (J 1)) a3 a4 a5)) (fun v3 h2 => ?_)
    refine y_istore (loc2 := [some (.ref a0), some (.ref a1), some (.int a2), some (.ref a3), some (.int a4), some (.int a5), some (.int v3), none]) d_W_most_21 (Nat.le_of_ble_eq_true rfl) rfl rfl ?_
    refine y_iconst (v := (J 0)) d_W_most_23 rfl ?_
    refine y_istore (loc2 := [some (.ref a0), some (.ref a1), some (.int a2), some (.ref a3), some (.int a4), some (.int a5), some (.int v3), some (.int (J 0))]) d_W_most_24 (Nat.le_of_ble_eq_true rfl) rfl rfl ?_
    refine S_W_most_26 hfl hD hdr ihr (fun h22 u23 => ?_) N h2 v3 (J 0)
    refine y_iload d_W_most_108 rfl ?_
    exact y_retI d_W_most_110 rfl rfl
  · refine y_iconst (v := (J 0)) d_W_most_6 rfl ?_
    exact y_retI d_W_most_7 rfl rfl
theorem S_W_most (hfl : HF l Θ) : ∀ (n : Nat) {d : Nat} (_ : 1 + n ≤ d) (h : mH) (a0 : Nat) (a1 : Nat) (a2 : Int32) (a3 : Nat) (a4 : Int32) (a5 : Int32), mMs l Θ d M_W_most [.ref a0, .ref a1, .int a2, .ref a3, .int a4, .int a5] h (tR vI) (P_W_most Θ N n h a0 a1 a2 a3 a4 a5)
  | 0, _, _, _, _, _, _, _, _, _ => fun r e => by cases e
  | n + 1, d, hD, h, a0, a1, a2, a3, a4, a5 => SR_W_most (dr := 1 + n) hfl (by omega) (by omega) (fun h a0 a1 a2 a3 a4 a5 => S_W_most hfl n (Nat.le_refl _) h a0 a1 a2 a3 a4 a5) h a0 a1 a2 a3 a4 a5
noncomputable def B_W_areFitsRight_9 (Θ : mW) (N : Nat) (K93 : mH → Int32 → Option ((Int32 ⊕ Nat) × mH)) (f0_ : Nat) (f1_ : Nat) (rc : mH → Int32 → Int32 → Option ((Int32 ⊕ Nat) × mH)) (h : mH) (v2_ : Int32) (v3_ : Int32) : Option ((Int32 ⊕ Nat) × mH) :=
  (if (J 60) ≤ v3_ then (K93 h v2_) else (bc (P_W_ask Θ N h f0_ (J 7) v3_) (fun v4 h3 => (jn (fun (h6 : mH) (s7 : Int32) => (jn (fun (h9 : mH) (s10 : Int32) => (bc (P_W_told Θ N h9 s10) (fun v12 h11 => (bo (aR Θ h11 0 f1_ (mxI (J 0) ((v2_ + v12) - (J 1)))) (fun v13 => (bc (P_W_told Θ N h11 s7) (fun v15 h14 => (bo (aW Θ h14 0 f1_ (mxI (J 0) ((v2_ + v12) - (J 1))) (v13 + v15)) (fun h16 => (rc h16 (v2_ + v12) (v3_ + (J 1)))))))))))) (fun j8 => (jn (fun (h18 : mH) => (j8 h18 (J 0))) (fun j17 => (if s7 = 0 then (j17 h6) else (jn (fun (h20 : mH) => (j8 h20 (J 1))) (fun j19 => (if v3_ = 0 then (j19 h6) else (bc (P_W_ask Θ N h6 f0_ (J 7) (v3_ - (J 1))) (fun v22 h21 => (if v22 = (J (-2004)) then (j17 h21) else (j19 h21))))))))))))) (fun j5 => (if v4 = (J (-2004)) then (j5 h3 (J 1)) else (j5 h3 (J 0))))))))
noncomputable def P_W_areFitsRight_9 (Θ : mW) (N : Nat) (K93 : mH → Int32 → Option ((Int32 ⊕ Nat) × mH)) (f0_ : Nat) (f1_ : Nat) : Nat → mH → Int32 → Int32 → Option ((Int32 ⊕ Nat) × mH) :=
  lp (fun _ _ _ => none) (B_W_areFitsRight_9 Θ N K93 f0_ f1_)
noncomputable def B_W_areFitsRight_103 (Θ : mW) (N : Nat) (K147 : mH → Option ((Int32 ⊕ Nat) × mH)) (f0_ : Nat) (f1_ : Nat) (f2_ : Int32) (f3_ : Nat) (rc : mH → Int32 → Option ((Int32 ⊕ Nat) × mH)) (h : mH) (v4_ : Int32) : Option ((Int32 ⊕ Nat) × mH) :=
  (bo (aN Θ h f3_) (fun v29 => (if v29 ≤ v4_ then (K147 h) else (gO Θ h 0 f0_ (bx (P_F_shipAt Θ N h f0_ v4_) (fun v31 h30 => (gO Θ h30 0 f0_ (bx (P_F_isInDock Θ N h30 f0_ v31) (fun v33 h32 => (jn (fun (h35 : mH) (s36 : Int32) => (bo (aW Θ h35 0 f3_ v4_ s36) (fun h37 => (rc h37 (v4_ + (J 1)))))) (fun j34 => (if v33 = 0 then (gO Θ h32 0 f0_ (bx (P_F_shipAt Θ N h32 f0_ v4_) (fun v39 h38 => (bx (P_W_lengthOfWaiting Θ N h38 f0_ v39) (fun v41 h40 => (j34 h40 v41)) (fun n9 h9 => xp n9 h9))) (fun n9 h9 => xp n9 h9))) else (j34 h32 (J 0)))))) (fun n9 h9 => xp n9 h9)))) (fun n9 h9 => xp n9 h9))))))
noncomputable def P_W_areFitsRight_103 (Θ : mW) (N : Nat) (K147 : mH → Option ((Int32 ⊕ Nat) × mH)) (f0_ : Nat) (f1_ : Nat) (f2_ : Int32) (f3_ : Nat) : Nat → mH → Int32 → Option ((Int32 ⊕ Nat) × mH) :=
  lp (fun _ _ => none) (B_W_areFitsRight_103 Θ N K147 f0_ f1_ f2_ f3_)
noncomputable def P_W_areFitsRight (Θ : mW) (N : Nat) (h : mH) (a0 : Nat) : Option ((Int32 ⊕ Nat) × mH) :=
  (ala Θ h 4 (J 61) (fun n => .inl (0, n, .inl (fun _ => 0))) (fun q1 h2 => (P_W_areFitsRight_9 Θ N (fun h23 u24 => (gO Θ h23 0 a0 (bc (P_F_shipCount Θ N h23 a0) (fun v26 h25 => (ala Θ h25 4 v26 (fun n => .inl (0, n, .inl (fun _ => 0))) (fun q27 h28 => (P_W_areFitsRight_103 Θ N (fun h42 => (gO Θ h42 0 a0 (bc (P_F_mostFitting Θ N h42 a0) (fun v44 h43 => (bc (P_W_most Θ N 9 h43 a0 q27 (J 0) q1 u24 (J 0)) (fun v46 h45 => (if v44 = v46 then (gO Θ h45 0 a0 (bc (P_F_mostFittingByTable Θ N h45 a0) (fun v48 h47 => (gO Θ h47 0 a0 (bc (P_F_mostFitting Θ N h47 a0) (fun v50 h49 => (if v48 = v50 then (gO Θ h49 0 a0 (bc (P_F_mostFittingMetres Θ N h49 a0) (fun v52 h51 => (bc (P_W_most Θ N 9 h51 a0 q27 (J 0) q1 u24 (J 1)) (fun v54 h53 => (if v52 = v54 then (some (.inl (J 1), h53)) else (some (.inl (J 0), h53)))))))) else (some (.inl (J 0), h49))))))))) else (some (.inl (J 0), h45))))))))) a0 q1 u24 q27 N h28 (J 0)))))))) a0 q1 N h2 (J 0) (J 0))))
theorem SB_W_areFitsRight_9 (hfl : HF l Θ) (hD : 13 ≤ d) {K93 : mH → Int32 → Option ((Int32 ⊕ Nat) × mH)} {f0_ : Nat} {f1_ : Nat}  (hK93 : ∀ (h : mH) (v2_ : Int32), mY l Θ d M_W_areFitsRight 93 [some (.ref f0_), some (.ref f1_), some (.int v2_), none, none] [] h (tX vI) (K93 h v2_)) (rc : mH → Int32 → Int32 → Option ((Int32 ⊕ Nat) × mH)) (ih : ∀ (h : mH) (v2_ : Int32) (v3_ : Int32), mY l Θ d M_W_areFitsRight 9 [some (.ref f0_), some (.ref f1_), some (.int v2_), some (.int v3_), none] [] h (tX vI) (rc h v2_ v3_)) : ∀ (h : mH) (v2_ : Int32) (v3_ : Int32), mY l Θ d M_W_areFitsRight 9 [some (.ref f0_), some (.ref f1_), some (.int v2_), some (.int v3_), none] [] h (tX vI) (B_W_areFitsRight_9 Θ N K93 f0_ f1_ rc h v2_ v3_) := by
  intro h v2_ v3_
  unfold B_W_areFitsRight_9
  refine y_iload_n d_W_areFitsRight_9 rfl ?_
  refine y_bipush (v := (J 60)) d_W_areFitsRight_10 (by decide +kernel) ?_
  refine y_icmp_ge (tgt := 93) d_W_areFitsRight_12 (by decide) ?_ ?_
  · exact y_wk (loc2 := [some (.ref f0_), some (.ref f1_), some (.int v2_), none, none]) ⟨rfl, ⟨rfl, ⟨rfl, trivial⟩⟩⟩ (hK93 h v2_)
  · refine y_aload_n d_W_areFitsRight_15 rfl ?_
    refine y_bipush (v := (J 7)) d_W_areFitsRight_16 (by decide +kernel) ?_
    refine y_iload_n d_W_areFitsRight_18 rfl ?_
    refine y_cI (c_st (rest := []) d_W_areFitsRight_19 k_W_ask s_W_162 rfl rfl (Nat.le_of_ble_eq_true rfl) (Nat.le_trans (Nat.le_of_ble_eq_true rfl : 10 + 1 ≤ 13) hD) (S_W_ask hfl (Nat.le_refl _) h f0_ (J 7) v3_)) (fun v4 h3 => ?_)
    refine y_sipush (v := (J (-2004))) d_W_areFitsRight_22 (by decide +kernel) ?_
    refine y_jn (C := fun (j9 : mH → Int32 → Option ((Int32 ⊕ Nat) × mH)) => ∀ (h6 : mH) (s7 : Int32), mY l Θ d M_W_areFitsRight 33 [some (.ref f0_), some (.ref f1_), some (.int v2_), some (.int v3_), none] [.int s7] h6 (tX vI) (j9 h6 s7)) (fun h6 s7 => ?_) (fun j5 Hj5 => ?_)
    · refine y_istore (loc2 := [some (.ref f0_), some (.ref f1_), some (.int v2_), some (.int v3_), some (.int s7)]) d_W_areFitsRight_33 (Nat.le_of_ble_eq_true rfl) rfl rfl ?_
      refine y_iload_n d_W_areFitsRight_35 rfl ?_
      refine y_iload d_W_areFitsRight_36 rfl ?_
      refine y_jn (C := fun (j9 : mH → Int32 → Option ((Int32 ⊕ Nat) × mH)) => ∀ (h9 : mH) (s10 : Int32), mY l Θ d M_W_areFitsRight 65 [some (.ref f0_), some (.ref f1_), none, some (.int v3_), some (.int s7)] [.int s10, .int v2_] h9 (tX vI) (j9 h9 s10)) (fun h9 s10 => ?_) (fun j8 Hj8 => ?_)
      · refine y_cI (c_st (rest := [.int v2_]) d_W_areFitsRight_65 k_W_told s_W_36 rfl rfl (Nat.le_of_ble_eq_true rfl) (Nat.le_trans (Nat.le_of_ble_eq_true rfl : 1 + 1 ≤ 13) hD) (S_W_told hfl (Nat.le_refl _) h9 s10)) (fun v12 h11 => ?_)
        refine y_iadd (v := (v2_ + v12)) d_W_areFitsRight_68 rfl ?_
        refine y_istore_n (loc2 := [some (.ref f0_), some (.ref f1_), some (.int (v2_ + v12)), some (.int v3_), some (.int s7)]) d_W_areFitsRight_69 (Nat.le_of_ble_eq_true rfl) rfl rfl ?_
        refine y_aload_n d_W_areFitsRight_70 rfl ?_
        refine y_iconst (v := (J 0)) d_W_areFitsRight_71 rfl ?_
        refine y_iload_n d_W_areFitsRight_72 rfl ?_
        refine y_iconst (v := (J 1)) d_W_areFitsRight_73 rfl ?_
        refine y_isub (v := ((v2_ + v12) - (J 1))) d_W_areFitsRight_74 rfl ?_
        refine y_mmax d_W_areFitsRight_75 s_W_145.1 s_W_145.2 k_MA_max.2.2.2.2.2 (mG (3, 185) (by decide +kernel)) (Nat.le_of_ble_eq_true rfl) (Nat.le_trans (Nat.le_of_ble_eq_true rfl) hD) ?_
        refine y_dup2 d_W_areFitsRight_78 rfl rfl ?_
        refine y_iald d_W_areFitsRight_79 (fun v13 => ?_)
        refine y_iload d_W_areFitsRight_80 rfl ?_
        refine y_cI (c_st (rest := [.int v13, .int (mxI (J 0) ((v2_ + v12) - (J 1))), .ref f1_]) d_W_areFitsRight_82 k_W_told s_W_36 rfl rfl (Nat.le_of_ble_eq_true rfl) (Nat.le_trans (Nat.le_of_ble_eq_true rfl : 1 + 1 ≤ 13) hD) (S_W_told hfl (Nat.le_refl _) h11 s7)) (fun v15 h14 => ?_)
        refine y_iadd (v := (v13 + v15)) d_W_areFitsRight_85 rfl ?_
        refine y_iast d_W_areFitsRight_86 (fun h16 => ?_)
        refine y_iinc (v := (v3_ + (J 1))) (loc2 := [some (.ref f0_), some (.ref f1_), some (.int (v2_ + v12)), some (.int (v3_ + (J 1))), some (.int s7)]) d_W_areFitsRight_87 rfl rfl (Nat.le_of_ble_eq_true rfl) rfl rfl ?_
        refine y_goto (tgt := 9) d_W_areFitsRight_90 (by decide) ?_
        exact y_wk (loc2 := [some (.ref f0_), some (.ref f1_), some (.int (v2_ + v12)), some (.int (v3_ + (J 1))), none]) ⟨rfl, ⟨rfl, ⟨rfl, ⟨rfl, trivial⟩⟩⟩⟩ (ih h16 (v2_ + v12) (v3_ + (J 1)))
      · refine y_jn (C := fun (j9 : mH → Option ((Int32 ⊕ Nat) × mH)) => ∀ (h18 : mH), mY l Θ d M_W_areFitsRight 64 [some (.ref f0_), some (.ref f1_), none, some (.int v3_), some (.int s7)] [.int v2_] h18 (tX vI) (j9 h18)) (fun h18 => ?_) (fun j17 Hj17 => ?_)
        · refine y_iconst (v := (J 0)) d_W_areFitsRight_64 rfl ?_
          exact Hj8 h18 (J 0)
        · refine y_if_eq (tgt := 64) d_W_areFitsRight_38 (by decide) ?_ ?_
          · exact y_wk (loc2 := [some (.ref f0_), some (.ref f1_), none, some (.int v3_), some (.int s7)]) ⟨rfl, ⟨rfl, ⟨rfl, ⟨rfl, trivial⟩⟩⟩⟩ (Hj17 h6)
          · refine y_iload_n d_W_areFitsRight_41 rfl ?_
            refine y_jn (C := fun (j9 : mH → Option ((Int32 ⊕ Nat) × mH)) => ∀ (h20 : mH), mY l Θ d M_W_areFitsRight 60 [some (.ref f0_), some (.ref f1_), none, some (.int v3_), some (.int s7)] [.int v2_] h20 (tX vI) (j9 h20)) (fun h20 => ?_) (fun j19 Hj19 => ?_)
            · refine y_iconst (v := (J 1)) d_W_areFitsRight_60 rfl ?_
              refine y_goto (tgt := 65) d_W_areFitsRight_61 (by decide) ?_
              exact Hj8 h20 (J 1)
            · refine y_if_eq (tgt := 60) d_W_areFitsRight_42 (by decide) ?_ ?_
              · exact y_wk (loc2 := [some (.ref f0_), some (.ref f1_), none, some (.int v3_), some (.int s7)]) ⟨rfl, ⟨rfl, ⟨rfl, ⟨rfl, trivial⟩⟩⟩⟩ (Hj19 h6)
              · refine y_aload_n d_W_areFitsRight_45 rfl ?_
                refine y_bipush (v := (J 7)) d_W_areFitsRight_46 (by decide +kernel) ?_
                refine y_iload_n d_W_areFitsRight_48 rfl ?_
                refine y_iconst (v := (J 1)) d_W_areFitsRight_49 rfl ?_
                refine y_isub (v := (v3_ - (J 1))) d_W_areFitsRight_50 rfl ?_
                refine y_cI (c_st (rest := [.int v2_]) d_W_areFitsRight_51 k_W_ask s_W_162 rfl rfl (Nat.le_of_ble_eq_true rfl) (Nat.le_trans (Nat.le_of_ble_eq_true rfl : 10 + 1 ≤ 13) hD) (S_W_ask hfl (Nat.le_refl _) h6 f0_ (J 7) (v3_ - (J 1)))) (fun v22 h21 => ?_)
                refine y_sipush (v := (J (-2004))) d_W_areFitsRight_54 (by decide +kernel) ?_
                refine y_icmp_eq (tgt := 64) d_W_areFitsRight_57 (by decide) ?_ ?_
                · exact y_wk (loc2 := [some (.ref f0_), some (.ref f1_), none, some (.int v3_), some (.int s7)]) ⟨rfl, ⟨rfl, ⟨rfl, ⟨rfl, trivial⟩⟩⟩⟩ (Hj17 h21)
                · exact y_wk (loc2 := [some (.ref f0_), some (.ref f1_), none, some (.int v3_), some (.int s7)]) ⟨rfl, ⟨rfl, ⟨rfl, ⟨rfl, trivial⟩⟩⟩⟩ (Hj19 h21)
    · refine y_icmp_ne (tgt := 32) d_W_areFitsRight_25 (by decide) ?_ ?_
      · refine y_iconst (v := (J 0)) d_W_areFitsRight_32 rfl ?_
        exact Hj5 h3 (J 0)
      · refine y_iconst (v := (J 1)) d_W_areFitsRight_28 rfl ?_
        refine y_goto (tgt := 33) d_W_areFitsRight_29 (by decide) ?_
        exact Hj5 h3 (J 1)
theorem S_W_areFitsRight_9 (hfl : HF l Θ) (hD : 13 ≤ d) {K93 : mH → Int32 → Option ((Int32 ⊕ Nat) × mH)} {f0_ : Nat} {f1_ : Nat}  (hK93 : ∀ (h : mH) (v2_ : Int32), mY l Θ d M_W_areFitsRight 93 [some (.ref f0_), some (.ref f1_), some (.int v2_), none, none] [] h (tX vI) (K93 h v2_)) : ∀ (n : Nat) (h : mH) (v2_ : Int32) (v3_ : Int32), mY l Θ d M_W_areFitsRight 9 [some (.ref f0_), some (.ref f1_), some (.int v2_), some (.int v3_), none] [] h (tX vI) (P_W_areFitsRight_9 Θ N K93 f0_ f1_ n h v2_ v3_) :=
  fun n => lp_all (C := fun (rc : mH → Int32 → Int32 → Option ((Int32 ⊕ Nat) × mH)) => ∀ (h : mH) (v2_ : Int32) (v3_ : Int32), mY l Θ d M_W_areFitsRight 9 [some (.ref f0_), some (.ref f1_), some (.int v2_), some (.int v3_), none] [] h (tX vI) (rc h v2_ v3_)) (fun _ _ _ => y_none) (fun rc ih => SB_W_areFitsRight_9 hfl hD hK93 rc ih) n
theorem SB_W_areFitsRight_103 (hfl : HF l Θ) (hD : 13 ≤ d) {K147 : mH → Option ((Int32 ⊕ Nat) × mH)} {f0_ : Nat} {f1_ : Nat} {f2_ : Int32} {f3_ : Nat}  (hK147 : ∀ (h : mH), mY l Θ d M_W_areFitsRight 147 [some (.ref f0_), some (.ref f1_), some (.int f2_), some (.ref f3_), none] [] h (tX vI) (K147 h)) (rc : mH → Int32 → Option ((Int32 ⊕ Nat) × mH)) (ih : ∀ (h : mH) (v4_ : Int32), mY l Θ d M_W_areFitsRight 103 [some (.ref f0_), some (.ref f1_), some (.int f2_), some (.ref f3_), some (.int v4_)] [] h (tX vI) (rc h v4_)) : ∀ (h : mH) (v4_ : Int32), mY l Θ d M_W_areFitsRight 103 [some (.ref f0_), some (.ref f1_), some (.int f2_), some (.ref f3_), some (.int v4_)] [] h (tX vI) (B_W_areFitsRight_103 Θ N K147 f0_ f1_ f2_ f3_ rc h v4_) := by
  intro h v4_
  unfold B_W_areFitsRight_103
  refine y_iload d_W_areFitsRight_103 rfl ?_
  refine y_aload_n d_W_areFitsRight_105 rfl ?_
  refine y_alen d_W_areFitsRight_106 (fun v29 => ?_)
  refine y_icmp_ge (tgt := 147) d_W_areFitsRight_107 (by decide) ?_ ?_
  · exact y_wk (loc2 := [some (.ref f0_), some (.ref f1_), some (.int f2_), some (.ref f3_), none]) ⟨rfl, ⟨rfl, ⟨rfl, ⟨rfl, trivial⟩⟩⟩⟩ (hK147 h)
  · refine y_aload_n d_W_areFitsRight_110 rfl ?_
    refine y_iload d_W_areFitsRight_111 rfl ?_
    refine y_aload_n d_W_areFitsRight_113 rfl ?_
    refine y_aload_n d_W_areFitsRight_114 rfl ?_
    refine y_iload d_W_areFitsRight_115 rfl ?_
    refine y_gO (fun fs1 g1 => y_xI (c_vi (rest := [.ref f0_, .int v4_, .ref f3_]) d_W_areFitsRight_117 k_F_shipAt s_W_75 (Or.inl ⟨_, _, _, g1, rfl, rfl⟩) rfl rfl (Nat.le_of_ble_eq_true rfl) (Nat.le_trans (Nat.le_of_ble_eq_true rfl : 6 + 1 ≤ 13) hD) (S_F_shipAt hfl (Nat.le_refl _) h f0_ v4_)) (fun v31 h30 => ?_) (fun _ _ => y_hp rfl))
    refine y_gO (fun fs1 g1 => y_xI (c_vi (rest := [.int v4_, .ref f3_]) d_W_areFitsRight_120 k_F_isInDock s_W_239 (Or.inl ⟨_, _, _, g1, rfl, rfl⟩) rfl rfl (Nat.le_of_ble_eq_true rfl) (Nat.le_trans (Nat.le_of_ble_eq_true rfl : 7 + 1 ≤ 13) hD) (S_F_isInDock hfl (Nat.le_refl _) h30 f0_ v31)) (fun v33 h32 => ?_) (fun _ _ => y_hp rfl))
    refine y_jn (C := fun (j9 : mH → Int32 → Option ((Int32 ⊕ Nat) × mH)) => ∀ (h35 : mH) (s36 : Int32), mY l Θ d M_W_areFitsRight 140 [some (.ref f0_), some (.ref f1_), some (.int f2_), some (.ref f3_), some (.int v4_)] [.int s36, .int v4_, .ref f3_] h35 (tX vI) (j9 h35 s36)) (fun h35 s36 => ?_) (fun j34 Hj34 => ?_)
    · refine y_iast d_W_areFitsRight_140 (fun h37 => ?_)
      refine y_iinc (v := (v4_ + (J 1))) (loc2 := [some (.ref f0_), some (.ref f1_), some (.int f2_), some (.ref f3_), some (.int (v4_ + (J 1)))]) d_W_areFitsRight_141 rfl rfl (Nat.le_of_ble_eq_true rfl) rfl rfl ?_
      refine y_goto (tgt := 103) d_W_areFitsRight_144 (by decide) ?_
      exact ih h37 (v4_ + (J 1))
    · refine y_if_eq (tgt := 130) d_W_areFitsRight_123 (by decide) ?_ ?_
      · refine y_aload_n d_W_areFitsRight_130 rfl ?_
        refine y_aload_n d_W_areFitsRight_131 rfl ?_
        refine y_iload d_W_areFitsRight_132 rfl ?_
        refine y_gO (fun fs1 g1 => y_xI (c_vi (rest := [.ref f0_, .int v4_, .ref f3_]) d_W_areFitsRight_134 k_F_shipAt s_W_75 (Or.inl ⟨_, _, _, g1, rfl, rfl⟩) rfl rfl (Nat.le_of_ble_eq_true rfl) (Nat.le_trans (Nat.le_of_ble_eq_true rfl : 6 + 1 ≤ 13) hD) (S_F_shipAt hfl (Nat.le_refl _) h32 f0_ v4_)) (fun v39 h38 => ?_) (fun _ _ => y_hp rfl))
        refine y_xI (c_st (rest := [.int v4_, .ref f3_]) d_W_areFitsRight_137 k_W_lengthOfWaiting s_W_259 rfl rfl (Nat.le_of_ble_eq_true rfl) (Nat.le_trans (Nat.le_of_ble_eq_true rfl : 9 + 1 ≤ 13) hD) (S_W_lengthOfWaiting hfl (Nat.le_refl _) h38 f0_ v39)) (fun v41 h40 => ?_) (fun _ _ => y_hp rfl)
        exact Hj34 h40 v41
      · refine y_iconst (v := (J 0)) d_W_areFitsRight_126 rfl ?_
        refine y_goto (tgt := 140) d_W_areFitsRight_127 (by decide) ?_
        exact Hj34 h32 (J 0)
theorem S_W_areFitsRight_103 (hfl : HF l Θ) (hD : 13 ≤ d) {K147 : mH → Option ((Int32 ⊕ Nat) × mH)} {f0_ : Nat} {f1_ : Nat} {f2_ : Int32} {f3_ : Nat}  (hK147 : ∀ (h : mH), mY l Θ d M_W_areFitsRight 147 [some (.ref f0_), some (.ref f1_), some (.int f2_), some (.ref f3_), none] [] h (tX vI) (K147 h)) : ∀ (n : Nat) (h : mH) (v4_ : Int32), mY l Θ d M_W_areFitsRight 103 [some (.ref f0_), some (.ref f1_), some (.int f2_), some (.ref f3_), some (.int v4_)] [] h (tX vI) (P_W_areFitsRight_103 Θ N K147 f0_ f1_ f2_ f3_ n h v4_) :=
  fun n => lp_all (C := fun (rc : mH → Int32 → Option ((Int32 ⊕ Nat) × mH)) => ∀ (h : mH) (v4_ : Int32), mY l Θ d M_W_areFitsRight 103 [some (.ref f0_), some (.ref f1_), some (.int f2_), some (.ref f3_), some (.int v4_)] [] h (tX vI) (rc h v4_)) (fun _ _ => y_none) (fun rc ih => SB_W_areFitsRight_103 hfl hD hK147 rc ih) n
theorem S_W_areFitsRight (hfl : HF l Θ) (hD : 13 ≤ d) (h : mH) (a0 : Nat) : mMs l Θ d M_W_areFitsRight [.ref a0] h (tX vI) (P_W_areFitsRight Θ N h a0) := by
  refine mMs.of hfl (by decide +kernel) rfl (Nat.le_of_ble_eq_true rfl) (loc := [some (.ref a0), none, none, none, none]) rfl ?_
  unfold P_W_areFitsRight
  refine y_bipush (v := (J 61)) d_W_areFitsRight_0 (by decide +kernel) ?_
  refine y_newarr (ty := .int) (a0 := fun n => (n, .inl (fun _ => 0))) d_W_areFitsRight_2 rfl (fun _ => rfl) (mG (1, 144) (by decide +kernel)) (fun _ _ => rfl) (fun _ => rfl) rfl (fun q1 h2 => ?_)
  refine y_astore_n (loc2 := [some (.ref a0), some (.ref q1), none, none, none]) d_W_areFitsRight_4 (Nat.le_of_ble_eq_true rfl) rfl rfl ?_
  refine y_iconst (v := (J 0)) d_W_areFitsRight_5 rfl ?_
  refine y_istore_n (loc2 := [some (.ref a0), some (.ref q1), some (.int (J 0)), none, none]) d_W_areFitsRight_6 (Nat.le_of_ble_eq_true rfl) rfl rfl ?_
  refine y_iconst (v := (J 0)) d_W_areFitsRight_7 rfl ?_
  refine y_istore_n (loc2 := [some (.ref a0), some (.ref q1), some (.int (J 0)), some (.int (J 0)), none]) d_W_areFitsRight_8 (Nat.le_of_ble_eq_true rfl) rfl rfl ?_
  refine S_W_areFitsRight_9 hfl hD (fun h23 u24 => ?_) N h2 (J 0) (J 0)
  refine y_aload_n d_W_areFitsRight_93 rfl ?_
  refine y_gO (fun fs1 g1 => y_cI (c_vi (rest := []) d_W_areFitsRight_94 k_F_shipCount s_W_135 (Or.inl ⟨_, _, _, g1, rfl, rfl⟩) rfl rfl (Nat.le_of_ble_eq_true rfl) (Nat.le_trans (Nat.le_of_ble_eq_true rfl : 1 + 1 ≤ 13) hD) (S_F_shipCount hfl (Nat.le_refl _) h23 a0)) (fun v26 h25 => ?_))
  refine y_newarr (ty := .int) (a0 := fun n => (n, .inl (fun _ => 0))) d_W_areFitsRight_97 rfl (fun _ => rfl) (mG (1, 144) (by decide +kernel)) (fun _ _ => rfl) (fun _ => rfl) rfl (fun q27 h28 => ?_)
  refine y_astore_n (loc2 := [some (.ref a0), some (.ref q1), some (.int u24), some (.ref q27), none]) d_W_areFitsRight_99 (Nat.le_of_ble_eq_true rfl) rfl rfl ?_
  refine y_iconst (v := (J 0)) d_W_areFitsRight_100 rfl ?_
  refine y_istore (loc2 := [some (.ref a0), some (.ref q1), some (.int u24), some (.ref q27), some (.int (J 0))]) d_W_areFitsRight_101 (Nat.le_of_ble_eq_true rfl) rfl rfl ?_
  refine S_W_areFitsRight_103 hfl hD (fun h42 => ?_) N h28 (J 0)
  refine y_aload_n d_W_areFitsRight_147 rfl ?_
  refine y_gO (fun fs1 g1 => y_cI (c_vi (rest := []) d_W_areFitsRight_148 k_F_mostFitting s_W_262 (Or.inl ⟨_, _, _, g1, rfl, rfl⟩) rfl rfl (Nat.le_of_ble_eq_true rfl) (Nat.le_trans (Nat.le_of_ble_eq_true rfl : 12 + 1 ≤ 13) hD) (S_F_mostFitting hfl (Nat.le_refl _) h42 a0)) (fun v44 h43 => ?_))
  refine y_aload_n d_W_areFitsRight_151 rfl ?_
  refine y_aload_n d_W_areFitsRight_152 rfl ?_
  refine y_iconst (v := (J 0)) d_W_areFitsRight_153 rfl ?_
  refine y_aload_n d_W_areFitsRight_154 rfl ?_
  refine y_iload_n d_W_areFitsRight_155 rfl ?_
  refine y_iconst (v := (J 0)) d_W_areFitsRight_156 rfl ?_
  refine y_cI (c_st (rest := [.int v44]) d_W_areFitsRight_157 k_W_most s_W_255 rfl rfl (Nat.le_of_ble_eq_true rfl) (Nat.le_trans (Nat.le_of_ble_eq_true rfl : 10 + 1 ≤ 13) hD) (S_W_most hfl 9 (Nat.le_refl _) h43 a0 q27 (J 0) q1 u24 (J 0))) (fun v46 h45 => ?_)
  refine y_icmp_ne (tgt := 194) d_W_areFitsRight_160 (by decide) ?_ ?_
  · refine y_iconst (v := (J 0)) d_W_areFitsRight_194 rfl ?_
    exact y_retIX d_W_areFitsRight_195 rfl (by decide +kernel)
  · refine y_aload_n d_W_areFitsRight_163 rfl ?_
    refine y_gO (fun fs1 g1 => y_cI (c_vi (rest := []) d_W_areFitsRight_164 k_F_mostFittingByTable s_W_265 (Or.inl ⟨_, _, _, g1, rfl, rfl⟩) rfl rfl (Nat.le_of_ble_eq_true rfl) (Nat.le_trans (Nat.le_of_ble_eq_true rfl : 5 + 1 ≤ 13) hD) (S_F_mostFittingByTable hfl (Nat.le_refl _) h45 a0)) (fun v48 h47 => ?_))
    refine y_aload_n d_W_areFitsRight_167 rfl ?_
    refine y_gO (fun fs1 g1 => y_cI (c_vi (rest := [.int v48]) d_W_areFitsRight_168 k_F_mostFitting s_W_262 (Or.inl ⟨_, _, _, g1, rfl, rfl⟩) rfl rfl (Nat.le_of_ble_eq_true rfl) (Nat.le_trans (Nat.le_of_ble_eq_true rfl : 12 + 1 ≤ 13) hD) (S_F_mostFitting hfl (Nat.le_refl _) h47 a0)) (fun v50 h49 => ?_))
    refine y_icmp_ne (tgt := 194) d_W_areFitsRight_171 (by decide) ?_ ?_
    · refine y_iconst (v := (J 0)) d_W_areFitsRight_194 rfl ?_
      exact y_retIX d_W_areFitsRight_195 rfl (by decide +kernel)
    · refine y_aload_n d_W_areFitsRight_174 rfl ?_
      refine y_gO (fun fs1 g1 => y_cI (c_vi (rest := []) d_W_areFitsRight_175 k_F_mostFittingMetres s_W_268 (Or.inl ⟨_, _, _, g1, rfl, rfl⟩) rfl rfl (Nat.le_of_ble_eq_true rfl) (Nat.le_trans (Nat.le_of_ble_eq_true rfl : 5 + 1 ≤ 13) hD) (S_F_mostFittingMetres hfl (Nat.le_refl _) h49 a0)) (fun v52 h51 => ?_))
      refine y_aload_n d_W_areFitsRight_178 rfl ?_
      refine y_aload_n d_W_areFitsRight_179 rfl ?_
      refine y_iconst (v := (J 0)) d_W_areFitsRight_180 rfl ?_
      refine y_aload_n d_W_areFitsRight_181 rfl ?_
      refine y_iload_n d_W_areFitsRight_182 rfl ?_
      refine y_iconst (v := (J 1)) d_W_areFitsRight_183 rfl ?_
      refine y_cI (c_st (rest := [.int v52]) d_W_areFitsRight_184 k_W_most s_W_255 rfl rfl (Nat.le_of_ble_eq_true rfl) (Nat.le_trans (Nat.le_of_ble_eq_true rfl : 10 + 1 ≤ 13) hD) (S_W_most hfl 9 (Nat.le_refl _) h51 a0 q27 (J 0) q1 u24 (J 1))) (fun v54 h53 => ?_)
      refine y_icmp_ne (tgt := 194) d_W_areFitsRight_187 (by decide) ?_ ?_
      · refine y_iconst (v := (J 0)) d_W_areFitsRight_194 rfl ?_
        exact y_retIX d_W_areFitsRight_195 rfl (by decide +kernel)
      · refine y_iconst (v := (J 1)) d_W_areFitsRight_190 rfl ?_
        refine y_goto (tgt := 195) d_W_areFitsRight_191 (by decide) ?_
        exact y_retIX d_W_areFitsRight_195 rfl (by decide +kernel)
noncomputable def B_W_isSeaRight_63 (Θ : mW) (N : Nat) (K95 : mH → Int32 → Option ((Int32 ⊕ Nat) × mH)) (f0_ : Nat) (f1_ : Int32) (f3_ : Int32) (rc : mH → Int32 → Int32 → Option ((Int32 ⊕ Nat) × mH)) (h : mH) (v2_ : Int32) (v4_ : Int32) : Option ((Int32 ⊕ Nat) × mH) :=
  (if (f1_ - f1_ / (J 12) * (J 12)) < v4_ then (K95 h v2_) else (jn (fun (h7 : mH) (s8 : Int32) => (rc h7 (v2_ + s8) (v4_ + (J 1)))) (fun j6 => (if (J 7) ≤ v4_ then (j6 h (J (-20))) else (j6 h (J 20))))))
noncomputable def P_W_isSeaRight_63 (Θ : mW) (N : Nat) (K95 : mH → Int32 → Option ((Int32 ⊕ Nat) × mH)) (f0_ : Nat) (f1_ : Int32) (f3_ : Int32) : Nat → mH → Int32 → Int32 → Option ((Int32 ⊕ Nat) × mH) :=
  lp (fun _ _ _ => none) (B_W_isSeaRight_63 Θ N K95 f0_ f1_ f3_)
noncomputable def P_W_isSeaRight (Θ : mW) (N : Nat) (h : mH) (a0 : Nat) (a1 : Int32) : Option ((Int32 ⊕ Nat) × mH) :=
  (bc (P_W_ask Θ N h a0 (J 3) (J (-1))) (fun v2 h1 => (jn (fun (h4 : mH) (s5 : Int32) => (P_W_isSeaRight_63 Θ N (fun h9 u10 => (if s5 = 0 then (some (.inl (J 0), h9)) else (gO Θ h9 0 a0 (bx (P_F_seaLevel Θ N h9 a0 a1) (fun v12 h11 => (if v12 = u10 then (gO Θ h11 0 a0 (bx (P_F_seaLevelByHours Θ N h11 a0 a1) (fun v14 h13 => (if v14 = u10 then (some (.inl (J 1), h13)) else (some (.inl (J 0), h13)))) (fun n9 h9 => xp n9 h9))) else (some (.inl (J 0), h11)))) (fun n9 h9 => xp n9 h9))))) a0 a1 s5 N h4 (J 40) (J 1))) (fun j3 => (jn (fun (h16 : mH) => (j3 h16 (J 0))) (fun j15 => (if v2 = (J (-2003)) then (bc (P_W_ask Θ N h1 a0 (J 3) (J 10000)) (fun v18 h17 => (if v18 = (J (-2003)) then (bc (P_W_ask Θ N h17 a0 (J 4) (J 97)) (fun v20 h19 => (if v20 = (J (-2003)) then (bc (P_W_ask Θ N h19 a0 (J 4) (J (-1))) (fun v22 h21 => (if v22 = (J (-2003)) then (j3 h21 (J 1)) else (j15 h21)))) else (j15 h19)))) else (j15 h17)))) else (j15 h1))))))))
theorem SB_W_isSeaRight_63 (hfl : HF l Θ) (hD : 11 ≤ d) {K95 : mH → Int32 → Option ((Int32 ⊕ Nat) × mH)} {f0_ : Nat} {f1_ : Int32} {f3_ : Int32}  (hK95 : ∀ (h : mH) (v2_ : Int32), mY l Θ d M_W_isSeaRight 95 [some (.ref f0_), some (.int f1_), some (.int v2_), some (.int f3_), none] [] h (tX vI) (K95 h v2_)) (rc : mH → Int32 → Int32 → Option ((Int32 ⊕ Nat) × mH)) (ih : ∀ (h : mH) (v2_ : Int32) (v4_ : Int32), mY l Θ d M_W_isSeaRight 63 [some (.ref f0_), some (.int f1_), some (.int v2_), some (.int f3_), some (.int v4_)] [] h (tX vI) (rc h v2_ v4_)) : ∀ (h : mH) (v2_ : Int32) (v4_ : Int32), mY l Θ d M_W_isSeaRight 63 [some (.ref f0_), some (.int f1_), some (.int v2_), some (.int f3_), some (.int v4_)] [] h (tX vI) (B_W_isSeaRight_63 Θ N K95 f0_ f1_ f3_ rc h v2_ v4_) := by
  intro h v2_ v4_
  unfold B_W_isSeaRight_63
  refine y_iload d_W_isSeaRight_63 rfl ?_
  refine y_iload_n d_W_isSeaRight_65 rfl ?_
  refine y_bipush (v := (J 12)) d_W_isSeaRight_66 (by decide +kernel) ?_
  refine y_irem (v := (f1_ - f1_ / (J 12) * (J 12))) d_W_isSeaRight_68 (by decide +kernel) rfl ?_
  refine y_icmp_gt (tgt := 95) d_W_isSeaRight_69 (by decide) ?_ ?_
  · exact y_wk (loc2 := [some (.ref f0_), some (.int f1_), some (.int v2_), some (.int f3_), none]) ⟨rfl, ⟨rfl, ⟨rfl, ⟨rfl, trivial⟩⟩⟩⟩ (hK95 h v2_)
  · refine y_iload_n d_W_isSeaRight_72 rfl ?_
    refine y_iload d_W_isSeaRight_73 rfl ?_
    refine y_bipush (v := (J 7)) d_W_isSeaRight_75 (by decide +kernel) ?_
    refine y_jn (C := fun (j9 : mH → Int32 → Option ((Int32 ⊕ Nat) × mH)) => ∀ (h7 : mH) (s8 : Int32), mY l Θ d M_W_isSeaRight 87 [some (.ref f0_), some (.int f1_), none, some (.int f3_), some (.int v4_)] [.int s8, .int v2_] h7 (tX vI) (j9 h7 s8)) (fun h7 s8 => ?_) (fun j6 Hj6 => ?_)
    · refine y_iadd (v := (v2_ + s8)) d_W_isSeaRight_87 rfl ?_
      refine y_istore_n (loc2 := [some (.ref f0_), some (.int f1_), some (.int (v2_ + s8)), some (.int f3_), some (.int v4_)]) d_W_isSeaRight_88 (Nat.le_of_ble_eq_true rfl) rfl rfl ?_
      refine y_iinc (v := (v4_ + (J 1))) (loc2 := [some (.ref f0_), some (.int f1_), some (.int (v2_ + s8)), some (.int f3_), some (.int (v4_ + (J 1)))]) d_W_isSeaRight_89 rfl rfl (Nat.le_of_ble_eq_true rfl) rfl rfl ?_
      refine y_goto (tgt := 63) d_W_isSeaRight_92 (by decide) ?_
      exact ih h7 (v2_ + s8) (v4_ + (J 1))
    · refine y_icmp_ge (tgt := 85) d_W_isSeaRight_77 (by decide) ?_ ?_
      · refine y_bipush (v := (J (-20))) d_W_isSeaRight_85 (by decide +kernel) ?_
        exact y_wk (loc2 := [some (.ref f0_), some (.int f1_), none, some (.int f3_), some (.int v4_)]) ⟨rfl, ⟨rfl, ⟨rfl, ⟨rfl, trivial⟩⟩⟩⟩ (Hj6 h (J (-20)))
      · refine y_bipush (v := (J 20)) d_W_isSeaRight_80 (by decide +kernel) ?_
        refine y_goto (tgt := 87) d_W_isSeaRight_82 (by decide) ?_
        exact y_wk (loc2 := [some (.ref f0_), some (.int f1_), none, some (.int f3_), some (.int v4_)]) ⟨rfl, ⟨rfl, ⟨rfl, ⟨rfl, trivial⟩⟩⟩⟩ (Hj6 h (J 20))
theorem S_W_isSeaRight_63 (hfl : HF l Θ) (hD : 11 ≤ d) {K95 : mH → Int32 → Option ((Int32 ⊕ Nat) × mH)} {f0_ : Nat} {f1_ : Int32} {f3_ : Int32}  (hK95 : ∀ (h : mH) (v2_ : Int32), mY l Θ d M_W_isSeaRight 95 [some (.ref f0_), some (.int f1_), some (.int v2_), some (.int f3_), none] [] h (tX vI) (K95 h v2_)) : ∀ (n : Nat) (h : mH) (v2_ : Int32) (v4_ : Int32), mY l Θ d M_W_isSeaRight 63 [some (.ref f0_), some (.int f1_), some (.int v2_), some (.int f3_), some (.int v4_)] [] h (tX vI) (P_W_isSeaRight_63 Θ N K95 f0_ f1_ f3_ n h v2_ v4_) :=
  fun n => lp_all (C := fun (rc : mH → Int32 → Int32 → Option ((Int32 ⊕ Nat) × mH)) => ∀ (h : mH) (v2_ : Int32) (v4_ : Int32), mY l Θ d M_W_isSeaRight 63 [some (.ref f0_), some (.int f1_), some (.int v2_), some (.int f3_), some (.int v4_)] [] h (tX vI) (rc h v2_ v4_)) (fun _ _ _ => y_none) (fun rc ih => SB_W_isSeaRight_63 hfl hD hK95 rc ih) n
theorem S_W_isSeaRight (hfl : HF l Θ) (hD : 11 ≤ d) (h : mH) (a0 : Nat) (a1 : Int32) : mMs l Θ d M_W_isSeaRight [.ref a0, .int a1] h (tX vI) (P_W_isSeaRight Θ N h a0 a1) := by
  refine mMs.of hfl (by decide +kernel) rfl (Nat.le_of_ble_eq_true rfl) (loc := [some (.ref a0), some (.int a1), none, none, none]) rfl ?_
  unfold P_W_isSeaRight
  refine y_bipush (v := (J 40)) d_W_isSeaRight_0 (by decide +kernel) ?_
  refine y_istore_n (loc2 := [some (.ref a0), some (.int a1), some (.int (J 40)), none, none]) d_W_isSeaRight_2 (Nat.le_of_ble_eq_true rfl) rfl rfl ?_
  refine y_aload_n d_W_isSeaRight_3 rfl ?_
  refine y_iconst (v := (J 3)) d_W_isSeaRight_4 rfl ?_
  refine y_iconst (v := (J (-1))) d_W_isSeaRight_5 rfl ?_
  refine y_cI (c_st (rest := []) d_W_isSeaRight_6 k_W_ask s_W_162 rfl rfl (Nat.le_of_ble_eq_true rfl) (Nat.le_trans (Nat.le_of_ble_eq_true rfl : 10 + 1 ≤ 11) hD) (S_W_ask hfl (Nat.le_refl _) h a0 (J 3) (J (-1)))) (fun v2 h1 => ?_)
  refine y_sipush (v := (J (-2003))) d_W_isSeaRight_9 (by decide +kernel) ?_
  refine y_jn (C := fun (j9 : mH → Int32 → Option ((Int32 ⊕ Nat) × mH)) => ∀ (h4 : mH) (s5 : Int32), mY l Θ d M_W_isSeaRight 59 [some (.ref a0), some (.int a1), some (.int (J 40)), none, none] [.int s5] h4 (tX vI) (j9 h4 s5)) (fun h4 s5 => ?_) (fun j3 Hj3 => ?_)
  · refine y_istore_n (loc2 := [some (.ref a0), some (.int a1), some (.int (J 40)), some (.int s5), none]) d_W_isSeaRight_59 (Nat.le_of_ble_eq_true rfl) rfl rfl ?_
    refine y_iconst (v := (J 1)) d_W_isSeaRight_60 rfl ?_
    refine y_istore (loc2 := [some (.ref a0), some (.int a1), some (.int (J 40)), some (.int s5), some (.int (J 1))]) d_W_isSeaRight_61 (Nat.le_of_ble_eq_true rfl) rfl rfl ?_
    refine S_W_isSeaRight_63 hfl hD (fun h9 u10 => ?_) N h4 (J 40) (J 1)
    refine y_iload_n d_W_isSeaRight_95 rfl ?_
    refine y_if_eq (tgt := 121) d_W_isSeaRight_96 (by decide) ?_ ?_
    · refine y_iconst (v := (J 0)) d_W_isSeaRight_121 rfl ?_
      exact y_retIX d_W_isSeaRight_122 rfl (by decide +kernel)
    · refine y_aload_n d_W_isSeaRight_99 rfl ?_
      refine y_iload_n d_W_isSeaRight_100 rfl ?_
      refine y_gO (fun fs1 g1 => y_xI (c_vi (rest := []) d_W_isSeaRight_101 k_F_seaLevel s_W_84 (Or.inl ⟨_, _, _, g1, rfl, rfl⟩) rfl rfl (Nat.le_of_ble_eq_true rfl) (Nat.le_trans (Nat.le_of_ble_eq_true rfl : 7 + 1 ≤ 11) hD) (S_F_seaLevel hfl (Nat.le_refl _) h9 a0 a1)) (fun v12 h11 => ?_) (fun _ _ => y_hp rfl))
      refine y_iload_n d_W_isSeaRight_104 rfl ?_
      refine y_icmp_ne (tgt := 121) d_W_isSeaRight_105 (by decide) ?_ ?_
      · refine y_iconst (v := (J 0)) d_W_isSeaRight_121 rfl ?_
        exact y_retIX d_W_isSeaRight_122 rfl (by decide +kernel)
      · refine y_aload_n d_W_isSeaRight_108 rfl ?_
        refine y_iload_n d_W_isSeaRight_109 rfl ?_
        refine y_gO (fun fs1 g1 => y_xI (c_vi (rest := []) d_W_isSeaRight_110 k_F_seaLevelByHours s_W_280 (Or.inl ⟨_, _, _, g1, rfl, rfl⟩) rfl rfl (Nat.le_of_ble_eq_true rfl) (Nat.le_trans (Nat.le_of_ble_eq_true rfl : 7 + 1 ≤ 11) hD) (S_F_seaLevelByHours hfl (Nat.le_refl _) h11 a0 a1)) (fun v14 h13 => ?_) (fun _ _ => y_hp rfl))
        refine y_iload_n d_W_isSeaRight_113 rfl ?_
        refine y_icmp_ne (tgt := 121) d_W_isSeaRight_114 (by decide) ?_ ?_
        · refine y_iconst (v := (J 0)) d_W_isSeaRight_121 rfl ?_
          exact y_retIX d_W_isSeaRight_122 rfl (by decide +kernel)
        · refine y_iconst (v := (J 1)) d_W_isSeaRight_117 rfl ?_
          refine y_goto (tgt := 122) d_W_isSeaRight_118 (by decide) ?_
          exact y_retIX d_W_isSeaRight_122 rfl (by decide +kernel)
  · refine y_jn (C := fun (j9 : mH → Option ((Int32 ⊕ Nat) × mH)) => ∀ (h16 : mH), mY l Θ d M_W_isSeaRight 58 [some (.ref a0), some (.int a1), some (.int (J 40)), none, none] [] h16 (tX vI) (j9 h16)) (fun h16 => ?_) (fun j15 Hj15 => ?_)
    · refine y_iconst (v := (J 0)) d_W_isSeaRight_58 rfl ?_
      exact Hj3 h16 (J 0)
    · refine y_icmp_ne (tgt := 58) d_W_isSeaRight_12 (by decide) ?_ ?_
      · exact Hj15 h1
      · refine y_aload_n d_W_isSeaRight_15 rfl ?_
        refine y_iconst (v := (J 3)) d_W_isSeaRight_16 rfl ?_
        refine y_sipush (v := (J 10000)) d_W_isSeaRight_17 (by decide +kernel) ?_
        refine y_cI (c_st (rest := []) d_W_isSeaRight_20 k_W_ask s_W_162 rfl rfl (Nat.le_of_ble_eq_true rfl) (Nat.le_trans (Nat.le_of_ble_eq_true rfl : 10 + 1 ≤ 11) hD) (S_W_ask hfl (Nat.le_refl _) h1 a0 (J 3) (J 10000))) (fun v18 h17 => ?_)
        refine y_sipush (v := (J (-2003))) d_W_isSeaRight_23 (by decide +kernel) ?_
        refine y_icmp_ne (tgt := 58) d_W_isSeaRight_26 (by decide) ?_ ?_
        · exact Hj15 h17
        · refine y_aload_n d_W_isSeaRight_29 rfl ?_
          refine y_iconst (v := (J 4)) d_W_isSeaRight_30 rfl ?_
          refine y_bipush (v := (J 97)) d_W_isSeaRight_31 (by decide +kernel) ?_
          refine y_cI (c_st (rest := []) d_W_isSeaRight_33 k_W_ask s_W_162 rfl rfl (Nat.le_of_ble_eq_true rfl) (Nat.le_trans (Nat.le_of_ble_eq_true rfl : 10 + 1 ≤ 11) hD) (S_W_ask hfl (Nat.le_refl _) h17 a0 (J 4) (J 97))) (fun v20 h19 => ?_)
          refine y_sipush (v := (J (-2003))) d_W_isSeaRight_36 (by decide +kernel) ?_
          refine y_icmp_ne (tgt := 58) d_W_isSeaRight_39 (by decide) ?_ ?_
          · exact Hj15 h19
          · refine y_aload_n d_W_isSeaRight_42 rfl ?_
            refine y_iconst (v := (J 4)) d_W_isSeaRight_43 rfl ?_
            refine y_iconst (v := (J (-1))) d_W_isSeaRight_44 rfl ?_
            refine y_cI (c_st (rest := []) d_W_isSeaRight_45 k_W_ask s_W_162 rfl rfl (Nat.le_of_ble_eq_true rfl) (Nat.le_trans (Nat.le_of_ble_eq_true rfl : 10 + 1 ≤ 11) hD) (S_W_ask hfl (Nat.le_refl _) h19 a0 (J 4) (J (-1)))) (fun v22 h21 => ?_)
            refine y_sipush (v := (J (-2003))) d_W_isSeaRight_48 (by decide +kernel) ?_
            refine y_icmp_ne (tgt := 58) d_W_isSeaRight_51 (by decide) ?_ ?_
            · exact Hj15 h21
            · refine y_iconst (v := (J 1)) d_W_isSeaRight_54 rfl ?_
              refine y_goto (tgt := 59) d_W_isSeaRight_55 (by decide) ?_
              exact Hj3 h21 (J 1)
noncomputable def B_W_looks_62 (Θ : mW) (N : Nat) (K137 : mH → Int32 → Option ((Int32 ⊕ Nat) × mH)) (f0_ : Nat) (rc : mH → Int32 → Int32 → Option ((Int32 ⊕ Nat) × mH)) (h : mH) (v1_ : Int32) (v2_ : Int32) : Option ((Int32 ⊕ Nat) × mH) :=
  (gO Θ h 0 f0_ (bc (P_F_shipCount Θ N h f0_) (fun v18 h17 => (if v18 ≤ v2_ then (K137 h17 v1_) else (gO Θ h17 0 f0_ (bx (P_F_shipAt Θ N h17 f0_ v2_) (fun v20 h19 => (bc (P_W_ask Θ N h19 f0_ (J 1) v20) (fun v22 h21 => (gO Θ h21 0 f0_ (bx (P_F_dirtOf Θ N h21 f0_ v20) (fun v24 h23 => (gO Θ h23 0 f0_ (bx (P_F_damageOf Θ N h23 f0_ v20) (fun v26 h25 => (gO Θ h25 0 f0_ (bx (P_F_hoursAfloat Θ N h25 f0_ v20) (fun v28 h27 => (gO Θ h27 0 f0_ (bx (P_F_billOf Θ N h27 f0_ v20) (fun v30 h29 => (rc h29 (((J 31) * (((J 31) * (((J 31) * (((J 31) * (((J 31) * (((J 31) * v1_) + v20)) + v22)) + v24)) + v26)) + v28)) + v30) (v2_ + (J 1)))) (fun n9 h9 => xp n9 h9)))) (fun n9 h9 => xp n9 h9)))) (fun n9 h9 => xp n9 h9)))) (fun n9 h9 => xp n9 h9)))))) (fun n9 h9 => xp n9 h9)))))))
noncomputable def P_W_looks_62 (Θ : mW) (N : Nat) (K137 : mH → Int32 → Option ((Int32 ⊕ Nat) × mH)) (f0_ : Nat) : Nat → mH → Int32 → Int32 → Option ((Int32 ⊕ Nat) × mH) :=
  lp (fun _ _ _ => none) (B_W_looks_62 Θ N K137 f0_)
noncomputable def B_W_looks_139 (Θ : mW) (N : Nat) (K176 : mH → Int32 → Option ((Int32 ⊕ Nat) × mH)) (f0_ : Nat) (rc : mH → Int32 → Int32 → Option ((Int32 ⊕ Nat) × mH)) (h : mH) (v1_ : Int32) (v2_ : Int32) : Option ((Int32 ⊕ Nat) × mH) :=
  (if (J 60) ≤ v2_ then (K176 h v1_) else (gO Θ h 0 f0_ (bx (P_F_hasBlock Θ N h f0_ v2_) (fun v34 h33 => (bc (P_W_told Θ N h33 v34) (fun v36 h35 => (bc (P_W_ask Θ N h35 f0_ (J 7) v2_) (fun v38 h37 => (rc h37 (((J 31) * (((J 31) * v1_) + v36)) + v38) (v2_ + (J 1)))))))) (fun n9 h9 => xp n9 h9))))
noncomputable def P_W_looks_139 (Θ : mW) (N : Nat) (K176 : mH → Int32 → Option ((Int32 ⊕ Nat) × mH)) (f0_ : Nat) : Nat → mH → Int32 → Int32 → Option ((Int32 ⊕ Nat) × mH) :=
  lp (fun _ _ _ => none) (B_W_looks_139 Θ N K176 f0_)
noncomputable def P_W_looks (Θ : mW) (N : Nat) (h : mH) (a0 : Nat) : Option ((Int32 ⊕ Nat) × mH) :=
  (gO Θ h 0 a0 (bc (P_F_hour Θ N h a0) (fun v2 h1 => (gO Θ h1 0 a0 (bc (P_F_level Θ N h1 a0) (fun v4 h3 => (gO Θ h3 0 a0 (bc (P_F_isGateOpen Θ N h3 a0) (fun v6 h5 => (bc (P_W_told Θ N h5 v6) (fun v8 h7 => (gO Θ h7 0 a0 (bx (P_F_levelAfter Θ N h7 a0 (J 1)) (fun v10 h9 => (gO Θ h9 0 a0 (bx (P_F_levelAfter Θ N h9 a0 (J 3)) (fun v12 h11 => (gO Θ h11 0 a0 (bc (P_F_billTotalByAccount Θ N h11 a0) (fun v14 h13 => (gO Θ h13 0 a0 (bc (P_F_paidTotal Θ N h13 a0) (fun v16 h15 => (P_W_looks_62 Θ N (fun h31 u32 => (P_W_looks_139 Θ N (fun h39 u40 => (some (.inl u40, h39))) a0 N h31 u32 (J 0))) a0 N h15 (((J 31) * (((J 31) * (((J 31) * (((J 31) * (((J 31) * (((J 31) * v2) + v4)) + v8)) + v10)) + v12)) + v14)) + v16) (J 0))))))))) (fun n9 h9 => xp n9 h9)))) (fun n9 h9 => xp n9 h9))))))))))))))
theorem SB_W_looks_62 (hfl : HF l Θ) (hD : 11 ≤ d) {K137 : mH → Int32 → Option ((Int32 ⊕ Nat) × mH)} {f0_ : Nat}  (hK137 : ∀ (h : mH) (v1_ : Int32), mY l Θ d M_W_looks 137 [some (.ref f0_), some (.int v1_), none, none] [] h (tX vI) (K137 h v1_)) (rc : mH → Int32 → Int32 → Option ((Int32 ⊕ Nat) × mH)) (ih : ∀ (h : mH) (v1_ : Int32) (v2_ : Int32), mY l Θ d M_W_looks 62 [some (.ref f0_), some (.int v1_), some (.int v2_), none] [] h (tX vI) (rc h v1_ v2_)) : ∀ (h : mH) (v1_ : Int32) (v2_ : Int32), mY l Θ d M_W_looks 62 [some (.ref f0_), some (.int v1_), some (.int v2_), none] [] h (tX vI) (B_W_looks_62 Θ N K137 f0_ rc h v1_ v2_) := by
  intro h v1_ v2_
  unfold B_W_looks_62
  refine y_iload_n d_W_looks_62 rfl ?_
  refine y_aload_n d_W_looks_63 rfl ?_
  refine y_gO (fun fs1 g1 => y_cI (c_vi (rest := [.int v2_]) d_W_looks_64 k_F_shipCount s_W_135 (Or.inl ⟨_, _, _, g1, rfl, rfl⟩) rfl rfl (Nat.le_of_ble_eq_true rfl) (Nat.le_trans (Nat.le_of_ble_eq_true rfl : 1 + 1 ≤ 11) hD) (S_F_shipCount hfl (Nat.le_refl _) h f0_)) (fun v18 h17 => ?_))
  refine y_icmp_ge (tgt := 137) d_W_looks_67 (by decide) ?_ ?_
  · exact y_wk (loc2 := [some (.ref f0_), some (.int v1_), none, none]) ⟨rfl, ⟨rfl, trivial⟩⟩ (hK137 h17 v1_)
  · refine y_aload_n d_W_looks_70 rfl ?_
    refine y_iload_n d_W_looks_71 rfl ?_
    refine y_gO (fun fs1 g1 => y_xI (c_vi (rest := []) d_W_looks_72 k_F_shipAt s_W_75 (Or.inl ⟨_, _, _, g1, rfl, rfl⟩) rfl rfl (Nat.le_of_ble_eq_true rfl) (Nat.le_trans (Nat.le_of_ble_eq_true rfl : 6 + 1 ≤ 11) hD) (S_F_shipAt hfl (Nat.le_refl _) h17 f0_ v2_)) (fun v20 h19 => ?_) (fun _ _ => y_hp rfl))
    refine y_istore_n (loc2 := [some (.ref f0_), some (.int v1_), some (.int v2_), some (.int v20)]) d_W_looks_75 (Nat.le_of_ble_eq_true rfl) rfl rfl ?_
    refine y_bipush (v := (J 31)) d_W_looks_76 (by decide +kernel) ?_
    refine y_bipush (v := (J 31)) d_W_looks_78 (by decide +kernel) ?_
    refine y_bipush (v := (J 31)) d_W_looks_80 (by decide +kernel) ?_
    refine y_iload_n d_W_looks_82 rfl ?_
    refine y_imul (v := ((J 31) * v1_)) d_W_looks_83 rfl ?_
    refine y_iload_n d_W_looks_84 rfl ?_
    refine y_iadd (v := (((J 31) * v1_) + v20)) d_W_looks_85 rfl ?_
    refine y_imul (v := ((J 31) * (((J 31) * v1_) + v20))) d_W_looks_86 rfl ?_
    refine y_aload_n d_W_looks_87 rfl ?_
    refine y_iconst (v := (J 1)) d_W_looks_88 rfl ?_
    refine y_iload_n d_W_looks_89 rfl ?_
    refine y_cI (c_st (rest := [.int ((J 31) * (((J 31) * v1_) + v20)), .int (J 31)]) d_W_looks_90 k_W_ask s_W_162 rfl rfl (Nat.le_of_ble_eq_true rfl) (Nat.le_trans (Nat.le_of_ble_eq_true rfl : 10 + 1 ≤ 11) hD) (S_W_ask hfl (Nat.le_refl _) h19 f0_ (J 1) v20)) (fun v22 h21 => ?_)
    refine y_iadd (v := (((J 31) * (((J 31) * v1_) + v20)) + v22)) d_W_looks_93 rfl ?_
    refine y_imul (v := ((J 31) * (((J 31) * (((J 31) * v1_) + v20)) + v22))) d_W_looks_94 rfl ?_
    refine y_aload_n d_W_looks_95 rfl ?_
    refine y_iload_n d_W_looks_96 rfl ?_
    refine y_gO (fun fs1 g1 => y_xI (c_vi (rest := [.int ((J 31) * (((J 31) * (((J 31) * v1_) + v20)) + v22))]) d_W_looks_97 k_F_dirtOf s_W_115 (Or.inl ⟨_, _, _, g1, rfl, rfl⟩) rfl rfl (Nat.le_of_ble_eq_true rfl) (Nat.le_trans (Nat.le_of_ble_eq_true rfl : 7 + 1 ≤ 11) hD) (S_F_dirtOf hfl (Nat.le_refl _) h21 f0_ v20)) (fun v24 h23 => ?_) (fun _ _ => y_hp rfl))
    refine y_iadd (v := (((J 31) * (((J 31) * (((J 31) * v1_) + v20)) + v22)) + v24)) d_W_looks_100 rfl ?_
    refine y_istore_n (loc2 := [some (.ref f0_), some (.int (((J 31) * (((J 31) * (((J 31) * v1_) + v20)) + v22)) + v24)), some (.int v2_), some (.int v20)]) d_W_looks_101 (Nat.le_of_ble_eq_true rfl) rfl rfl ?_
    refine y_bipush (v := (J 31)) d_W_looks_102 (by decide +kernel) ?_
    refine y_bipush (v := (J 31)) d_W_looks_104 (by decide +kernel) ?_
    refine y_bipush (v := (J 31)) d_W_looks_106 (by decide +kernel) ?_
    refine y_iload_n d_W_looks_108 rfl ?_
    refine y_imul (v := ((J 31) * (((J 31) * (((J 31) * (((J 31) * v1_) + v20)) + v22)) + v24))) d_W_looks_109 rfl ?_
    refine y_aload_n d_W_looks_110 rfl ?_
    refine y_iload_n d_W_looks_111 rfl ?_
    refine y_gO (fun fs1 g1 => y_xI (c_vi (rest := [.int ((J 31) * (((J 31) * (((J 31) * (((J 31) * v1_) + v20)) + v22)) + v24)), .int (J 31), .int (J 31)]) d_W_looks_112 k_F_damageOf s_W_165 (Or.inl ⟨_, _, _, g1, rfl, rfl⟩) rfl rfl (Nat.le_of_ble_eq_true rfl) (Nat.le_trans (Nat.le_of_ble_eq_true rfl : 7 + 1 ≤ 11) hD) (S_F_damageOf hfl (Nat.le_refl _) h23 f0_ v20)) (fun v26 h25 => ?_) (fun _ _ => y_hp rfl))
    refine y_iadd (v := (((J 31) * (((J 31) * (((J 31) * (((J 31) * v1_) + v20)) + v22)) + v24)) + v26)) d_W_looks_115 rfl ?_
    refine y_imul (v := ((J 31) * (((J 31) * (((J 31) * (((J 31) * (((J 31) * v1_) + v20)) + v22)) + v24)) + v26))) d_W_looks_116 rfl ?_
    refine y_aload_n d_W_looks_117 rfl ?_
    refine y_iload_n d_W_looks_118 rfl ?_
    refine y_gO (fun fs1 g1 => y_xI (c_vi (rest := [.int ((J 31) * (((J 31) * (((J 31) * (((J 31) * (((J 31) * v1_) + v20)) + v22)) + v24)) + v26)), .int (J 31)]) d_W_looks_119 k_F_hoursAfloat s_W_168 (Or.inl ⟨_, _, _, g1, rfl, rfl⟩) rfl rfl (Nat.le_of_ble_eq_true rfl) (Nat.le_trans (Nat.le_of_ble_eq_true rfl : 7 + 1 ≤ 11) hD) (S_F_hoursAfloat hfl (Nat.le_refl _) h25 f0_ v20)) (fun v28 h27 => ?_) (fun _ _ => y_hp rfl))
    refine y_iadd (v := (((J 31) * (((J 31) * (((J 31) * (((J 31) * (((J 31) * v1_) + v20)) + v22)) + v24)) + v26)) + v28)) d_W_looks_122 rfl ?_
    refine y_imul (v := ((J 31) * (((J 31) * (((J 31) * (((J 31) * (((J 31) * (((J 31) * v1_) + v20)) + v22)) + v24)) + v26)) + v28))) d_W_looks_123 rfl ?_
    refine y_aload_n d_W_looks_124 rfl ?_
    refine y_iload_n d_W_looks_125 rfl ?_
    refine y_gO (fun fs1 g1 => y_xI (c_vi (rest := [.int ((J 31) * (((J 31) * (((J 31) * (((J 31) * (((J 31) * (((J 31) * v1_) + v20)) + v22)) + v24)) + v26)) + v28))]) d_W_looks_126 k_F_billOf s_W_142 (Or.inl ⟨_, _, _, g1, rfl, rfl⟩) rfl rfl (Nat.le_of_ble_eq_true rfl) (Nat.le_trans (Nat.le_of_ble_eq_true rfl : 7 + 1 ≤ 11) hD) (S_F_billOf hfl (Nat.le_refl _) h27 f0_ v20)) (fun v30 h29 => ?_) (fun _ _ => y_hp rfl))
    refine y_iadd (v := (((J 31) * (((J 31) * (((J 31) * (((J 31) * (((J 31) * (((J 31) * v1_) + v20)) + v22)) + v24)) + v26)) + v28)) + v30)) d_W_looks_129 rfl ?_
    refine y_istore_n (loc2 := [some (.ref f0_), some (.int (((J 31) * (((J 31) * (((J 31) * (((J 31) * (((J 31) * (((J 31) * v1_) + v20)) + v22)) + v24)) + v26)) + v28)) + v30)), some (.int v2_), some (.int v20)]) d_W_looks_130 (Nat.le_of_ble_eq_true rfl) rfl rfl ?_
    refine y_iinc (v := (v2_ + (J 1))) (loc2 := [some (.ref f0_), some (.int (((J 31) * (((J 31) * (((J 31) * (((J 31) * (((J 31) * (((J 31) * v1_) + v20)) + v22)) + v24)) + v26)) + v28)) + v30)), some (.int (v2_ + (J 1))), some (.int v20)]) d_W_looks_131 rfl rfl (Nat.le_of_ble_eq_true rfl) rfl rfl ?_
    refine y_goto (tgt := 62) d_W_looks_134 (by decide) ?_
    exact y_wk (loc2 := [some (.ref f0_), some (.int (((J 31) * (((J 31) * (((J 31) * (((J 31) * (((J 31) * (((J 31) * v1_) + v20)) + v22)) + v24)) + v26)) + v28)) + v30)), some (.int (v2_ + (J 1))), none]) ⟨rfl, ⟨rfl, ⟨rfl, trivial⟩⟩⟩ (ih h29 (((J 31) * (((J 31) * (((J 31) * (((J 31) * (((J 31) * (((J 31) * v1_) + v20)) + v22)) + v24)) + v26)) + v28)) + v30) (v2_ + (J 1)))
theorem S_W_looks_62 (hfl : HF l Θ) (hD : 11 ≤ d) {K137 : mH → Int32 → Option ((Int32 ⊕ Nat) × mH)} {f0_ : Nat}  (hK137 : ∀ (h : mH) (v1_ : Int32), mY l Θ d M_W_looks 137 [some (.ref f0_), some (.int v1_), none, none] [] h (tX vI) (K137 h v1_)) : ∀ (n : Nat) (h : mH) (v1_ : Int32) (v2_ : Int32), mY l Θ d M_W_looks 62 [some (.ref f0_), some (.int v1_), some (.int v2_), none] [] h (tX vI) (P_W_looks_62 Θ N K137 f0_ n h v1_ v2_) :=
  fun n => lp_all (C := fun (rc : mH → Int32 → Int32 → Option ((Int32 ⊕ Nat) × mH)) => ∀ (h : mH) (v1_ : Int32) (v2_ : Int32), mY l Θ d M_W_looks 62 [some (.ref f0_), some (.int v1_), some (.int v2_), none] [] h (tX vI) (rc h v1_ v2_)) (fun _ _ _ => y_none) (fun rc ih => SB_W_looks_62 hfl hD hK137 rc ih) n
theorem SB_W_looks_139 (hfl : HF l Θ) (hD : 11 ≤ d) {K176 : mH → Int32 → Option ((Int32 ⊕ Nat) × mH)} {f0_ : Nat}  (hK176 : ∀ (h : mH) (v1_ : Int32), mY l Θ d M_W_looks 176 [none, some (.int v1_), none, none] [] h (tX vI) (K176 h v1_)) (rc : mH → Int32 → Int32 → Option ((Int32 ⊕ Nat) × mH)) (ih : ∀ (h : mH) (v1_ : Int32) (v2_ : Int32), mY l Θ d M_W_looks 139 [some (.ref f0_), some (.int v1_), some (.int v2_), none] [] h (tX vI) (rc h v1_ v2_)) : ∀ (h : mH) (v1_ : Int32) (v2_ : Int32), mY l Θ d M_W_looks 139 [some (.ref f0_), some (.int v1_), some (.int v2_), none] [] h (tX vI) (B_W_looks_139 Θ N K176 f0_ rc h v1_ v2_) := by
  intro h v1_ v2_
  unfold B_W_looks_139
  refine y_iload_n d_W_looks_139 rfl ?_
  refine y_bipush (v := (J 60)) d_W_looks_140 (by decide +kernel) ?_
  refine y_icmp_ge (tgt := 176) d_W_looks_142 (by decide) ?_ ?_
  · exact y_wk (loc2 := [none, some (.int v1_), none, none]) ⟨rfl, trivial⟩ (hK176 h v1_)
  · refine y_bipush (v := (J 31)) d_W_looks_145 (by decide +kernel) ?_
    refine y_bipush (v := (J 31)) d_W_looks_147 (by decide +kernel) ?_
    refine y_iload_n d_W_looks_149 rfl ?_
    refine y_imul (v := ((J 31) * v1_)) d_W_looks_150 rfl ?_
    refine y_aload_n d_W_looks_151 rfl ?_
    refine y_iload_n d_W_looks_152 rfl ?_
    refine y_gO (fun fs1 g1 => y_xI (c_vi (rest := [.int ((J 31) * v1_), .int (J 31)]) d_W_looks_153 k_F_hasBlock s_W_93 (Or.inl ⟨_, _, _, g1, rfl, rfl⟩) rfl rfl (Nat.le_of_ble_eq_true rfl) (Nat.le_trans (Nat.le_of_ble_eq_true rfl : 7 + 1 ≤ 11) hD) (S_F_hasBlock hfl (Nat.le_refl _) h f0_ v2_)) (fun v34 h33 => ?_) (fun _ _ => y_hp rfl))
    refine y_cI (c_st (rest := [.int ((J 31) * v1_), .int (J 31)]) d_W_looks_156 k_W_told s_W_36 rfl rfl (Nat.le_of_ble_eq_true rfl) (Nat.le_trans (Nat.le_of_ble_eq_true rfl : 1 + 1 ≤ 11) hD) (S_W_told hfl (Nat.le_refl _) h33 v34)) (fun v36 h35 => ?_)
    refine y_iadd (v := (((J 31) * v1_) + v36)) d_W_looks_159 rfl ?_
    refine y_imul (v := ((J 31) * (((J 31) * v1_) + v36))) d_W_looks_160 rfl ?_
    refine y_aload_n d_W_looks_161 rfl ?_
    refine y_bipush (v := (J 7)) d_W_looks_162 (by decide +kernel) ?_
    refine y_iload_n d_W_looks_164 rfl ?_
    refine y_cI (c_st (rest := [.int ((J 31) * (((J 31) * v1_) + v36))]) d_W_looks_165 k_W_ask s_W_162 rfl rfl (Nat.le_of_ble_eq_true rfl) (Nat.le_trans (Nat.le_of_ble_eq_true rfl : 10 + 1 ≤ 11) hD) (S_W_ask hfl (Nat.le_refl _) h35 f0_ (J 7) v2_)) (fun v38 h37 => ?_)
    refine y_iadd (v := (((J 31) * (((J 31) * v1_) + v36)) + v38)) d_W_looks_168 rfl ?_
    refine y_istore_n (loc2 := [some (.ref f0_), some (.int (((J 31) * (((J 31) * v1_) + v36)) + v38)), some (.int v2_), none]) d_W_looks_169 (Nat.le_of_ble_eq_true rfl) rfl rfl ?_
    refine y_iinc (v := (v2_ + (J 1))) (loc2 := [some (.ref f0_), some (.int (((J 31) * (((J 31) * v1_) + v36)) + v38)), some (.int (v2_ + (J 1))), none]) d_W_looks_170 rfl rfl (Nat.le_of_ble_eq_true rfl) rfl rfl ?_
    refine y_goto (tgt := 139) d_W_looks_173 (by decide) ?_
    exact ih h37 (((J 31) * (((J 31) * v1_) + v36)) + v38) (v2_ + (J 1))
theorem S_W_looks_139 (hfl : HF l Θ) (hD : 11 ≤ d) {K176 : mH → Int32 → Option ((Int32 ⊕ Nat) × mH)} {f0_ : Nat}  (hK176 : ∀ (h : mH) (v1_ : Int32), mY l Θ d M_W_looks 176 [none, some (.int v1_), none, none] [] h (tX vI) (K176 h v1_)) : ∀ (n : Nat) (h : mH) (v1_ : Int32) (v2_ : Int32), mY l Θ d M_W_looks 139 [some (.ref f0_), some (.int v1_), some (.int v2_), none] [] h (tX vI) (P_W_looks_139 Θ N K176 f0_ n h v1_ v2_) :=
  fun n => lp_all (C := fun (rc : mH → Int32 → Int32 → Option ((Int32 ⊕ Nat) × mH)) => ∀ (h : mH) (v1_ : Int32) (v2_ : Int32), mY l Θ d M_W_looks 139 [some (.ref f0_), some (.int v1_), some (.int v2_), none] [] h (tX vI) (rc h v1_ v2_)) (fun _ _ _ => y_none) (fun rc ih => SB_W_looks_139 hfl hD hK176 rc ih) n
theorem S_W_looks (hfl : HF l Θ) (hD : 11 ≤ d) (h : mH) (a0 : Nat) : mMs l Θ d M_W_looks [.ref a0] h (tX vI) (P_W_looks Θ N h a0) := by
  refine mMs.of hfl (by decide +kernel) rfl (Nat.le_of_ble_eq_true rfl) (loc := [some (.ref a0), none, none, none]) rfl ?_
  unfold P_W_looks
  refine y_bipush (v := (J 31)) d_W_looks_0 (by decide +kernel) ?_
  refine y_bipush (v := (J 31)) d_W_looks_2 (by decide +kernel) ?_
  refine y_bipush (v := (J 31)) d_W_looks_4 (by decide +kernel) ?_
  refine y_aload_n d_W_looks_6 rfl ?_
  refine y_gO (fun fs1 g1 => y_cI (c_vi (rest := [.int (J 31), .int (J 31), .int (J 31)]) d_W_looks_7 k_F_hour s_W_150 (Or.inl ⟨_, _, _, g1, rfl, rfl⟩) rfl rfl (Nat.le_of_ble_eq_true rfl) (Nat.le_trans (Nat.le_of_ble_eq_true rfl : 1 + 1 ≤ 11) hD) (S_F_hour hfl (Nat.le_refl _) h a0)) (fun v2 h1 => ?_))
  refine y_imul (v := ((J 31) * v2)) d_W_looks_10 rfl ?_
  refine y_aload_n d_W_looks_11 rfl ?_
  refine y_gO (fun fs1 g1 => y_cI (c_vi (rest := [.int ((J 31) * v2), .int (J 31), .int (J 31)]) d_W_looks_12 k_F_level s_W_153 (Or.inl ⟨_, _, _, g1, rfl, rfl⟩) rfl rfl (Nat.le_of_ble_eq_true rfl) (Nat.le_trans (Nat.le_of_ble_eq_true rfl : 1 + 1 ≤ 11) hD) (S_F_level hfl (Nat.le_refl _) h1 a0)) (fun v4 h3 => ?_))
  refine y_iadd (v := (((J 31) * v2) + v4)) d_W_looks_15 rfl ?_
  refine y_imul (v := ((J 31) * (((J 31) * v2) + v4))) d_W_looks_16 rfl ?_
  refine y_aload_n d_W_looks_17 rfl ?_
  refine y_gO (fun fs1 g1 => y_cI (c_vi (rest := [.int ((J 31) * (((J 31) * v2) + v4)), .int (J 31)]) d_W_looks_18 k_F_isGateOpen s_W_131 (Or.inl ⟨_, _, _, g1, rfl, rfl⟩) rfl rfl (Nat.le_of_ble_eq_true rfl) (Nat.le_trans (Nat.le_of_ble_eq_true rfl : 1 + 1 ≤ 11) hD) (S_F_isGateOpen hfl (Nat.le_refl _) h3 a0)) (fun v6 h5 => ?_))
  refine y_cI (c_st (rest := [.int ((J 31) * (((J 31) * v2) + v4)), .int (J 31)]) d_W_looks_21 k_W_told s_W_36 rfl rfl (Nat.le_of_ble_eq_true rfl) (Nat.le_trans (Nat.le_of_ble_eq_true rfl : 1 + 1 ≤ 11) hD) (S_W_told hfl (Nat.le_refl _) h5 v6)) (fun v8 h7 => ?_)
  refine y_iadd (v := (((J 31) * (((J 31) * v2) + v4)) + v8)) d_W_looks_24 rfl ?_
  refine y_imul (v := ((J 31) * (((J 31) * (((J 31) * v2) + v4)) + v8))) d_W_looks_25 rfl ?_
  refine y_aload_n d_W_looks_26 rfl ?_
  refine y_iconst (v := (J 1)) d_W_looks_27 rfl ?_
  refine y_gO (fun fs1 g1 => y_xI (c_vi (rest := [.int ((J 31) * (((J 31) * (((J 31) * v2) + v4)) + v8))]) d_W_looks_28 k_F_levelAfter s_W_87 (Or.inl ⟨_, _, _, g1, rfl, rfl⟩) rfl rfl (Nat.le_of_ble_eq_true rfl) (Nat.le_trans (Nat.le_of_ble_eq_true rfl : 7 + 1 ≤ 11) hD) (S_F_levelAfter hfl (Nat.le_refl _) h7 a0 (J 1))) (fun v10 h9 => ?_) (fun _ _ => y_hp rfl))
  refine y_iadd (v := (((J 31) * (((J 31) * (((J 31) * v2) + v4)) + v8)) + v10)) d_W_looks_31 rfl ?_
  refine y_istore_n (loc2 := [some (.ref a0), some (.int (((J 31) * (((J 31) * (((J 31) * v2) + v4)) + v8)) + v10)), none, none]) d_W_looks_32 (Nat.le_of_ble_eq_true rfl) rfl rfl ?_
  refine y_bipush (v := (J 31)) d_W_looks_33 (by decide +kernel) ?_
  refine y_bipush (v := (J 31)) d_W_looks_35 (by decide +kernel) ?_
  refine y_bipush (v := (J 31)) d_W_looks_37 (by decide +kernel) ?_
  refine y_iload_n d_W_looks_39 rfl ?_
  refine y_imul (v := ((J 31) * (((J 31) * (((J 31) * (((J 31) * v2) + v4)) + v8)) + v10))) d_W_looks_40 rfl ?_
  refine y_aload_n d_W_looks_41 rfl ?_
  refine y_iconst (v := (J 3)) d_W_looks_42 rfl ?_
  refine y_gO (fun fs1 g1 => y_xI (c_vi (rest := [.int ((J 31) * (((J 31) * (((J 31) * (((J 31) * v2) + v4)) + v8)) + v10)), .int (J 31), .int (J 31)]) d_W_looks_43 k_F_levelAfter s_W_87 (Or.inl ⟨_, _, _, g1, rfl, rfl⟩) rfl rfl (Nat.le_of_ble_eq_true rfl) (Nat.le_trans (Nat.le_of_ble_eq_true rfl : 7 + 1 ≤ 11) hD) (S_F_levelAfter hfl (Nat.le_refl _) h9 a0 (J 3))) (fun v12 h11 => ?_) (fun _ _ => y_hp rfl))
  refine y_iadd (v := (((J 31) * (((J 31) * (((J 31) * (((J 31) * v2) + v4)) + v8)) + v10)) + v12)) d_W_looks_46 rfl ?_
  refine y_imul (v := ((J 31) * (((J 31) * (((J 31) * (((J 31) * (((J 31) * v2) + v4)) + v8)) + v10)) + v12))) d_W_looks_47 rfl ?_
  refine y_aload_n d_W_looks_48 rfl ?_
  refine y_gO (fun fs1 g1 => y_cI (c_vi (rest := [.int ((J 31) * (((J 31) * (((J 31) * (((J 31) * (((J 31) * v2) + v4)) + v8)) + v10)) + v12)), .int (J 31)]) d_W_looks_49 k_F_billTotalByAccount s_W_156 (Or.inl ⟨_, _, _, g1, rfl, rfl⟩) rfl rfl (Nat.le_of_ble_eq_true rfl) (Nat.le_trans (Nat.le_of_ble_eq_true rfl : 2 + 1 ≤ 11) hD) (S_F_billTotalByAccount hfl (Nat.le_refl _) h11 a0)) (fun v14 h13 => ?_))
  refine y_iadd (v := (((J 31) * (((J 31) * (((J 31) * (((J 31) * (((J 31) * v2) + v4)) + v8)) + v10)) + v12)) + v14)) d_W_looks_52 rfl ?_
  refine y_imul (v := ((J 31) * (((J 31) * (((J 31) * (((J 31) * (((J 31) * (((J 31) * v2) + v4)) + v8)) + v10)) + v12)) + v14))) d_W_looks_53 rfl ?_
  refine y_aload_n d_W_looks_54 rfl ?_
  refine y_gO (fun fs1 g1 => y_cI (c_vi (rest := [.int ((J 31) * (((J 31) * (((J 31) * (((J 31) * (((J 31) * (((J 31) * v2) + v4)) + v8)) + v10)) + v12)) + v14))]) d_W_looks_55 k_F_paidTotal s_W_159 (Or.inl ⟨_, _, _, g1, rfl, rfl⟩) rfl rfl (Nat.le_of_ble_eq_true rfl) (Nat.le_trans (Nat.le_of_ble_eq_true rfl : 1 + 1 ≤ 11) hD) (S_F_paidTotal hfl (Nat.le_refl _) h13 a0)) (fun v16 h15 => ?_))
  refine y_iadd (v := (((J 31) * (((J 31) * (((J 31) * (((J 31) * (((J 31) * (((J 31) * v2) + v4)) + v8)) + v10)) + v12)) + v14)) + v16)) d_W_looks_58 rfl ?_
  refine y_istore_n (loc2 := [some (.ref a0), some (.int (((J 31) * (((J 31) * (((J 31) * (((J 31) * (((J 31) * (((J 31) * v2) + v4)) + v8)) + v10)) + v12)) + v14)) + v16)), none, none]) d_W_looks_59 (Nat.le_of_ble_eq_true rfl) rfl rfl ?_
  refine y_iconst (v := (J 0)) d_W_looks_60 rfl ?_
  refine y_istore_n (loc2 := [some (.ref a0), some (.int (((J 31) * (((J 31) * (((J 31) * (((J 31) * (((J 31) * (((J 31) * v2) + v4)) + v8)) + v10)) + v12)) + v14)) + v16)), some (.int (J 0)), none]) d_W_looks_61 (Nat.le_of_ble_eq_true rfl) rfl rfl ?_
  refine S_W_looks_62 hfl hD (fun h31 u32 => ?_) N h15 (((J 31) * (((J 31) * (((J 31) * (((J 31) * (((J 31) * (((J 31) * v2) + v4)) + v8)) + v10)) + v12)) + v14)) + v16) (J 0)
  refine y_iconst (v := (J 0)) d_W_looks_137 rfl ?_
  refine y_istore_n (loc2 := [some (.ref a0), some (.int u32), some (.int (J 0)), none]) d_W_looks_138 (Nat.le_of_ble_eq_true rfl) rfl rfl ?_
  refine S_W_looks_139 hfl hD (fun h39 u40 => ?_) N h31 u32 (J 0)
  refine y_iload_n d_W_looks_176 rfl ?_
  exact y_retIX d_W_looks_177 rfl rfl
noncomputable def B_W_areHoursRight_83 (Θ : mW) (N : Nat) (K107 : mH → Option ((Int32 ⊕ Nat) × mH)) (f0_ : Nat) (f1_ : Int32) (f2_ : Int32) (f4_ : Nat) (f5_ : Int32) (f6_ : Int32) (f7_ : Int32) (rc : mH → Int32 → Option ((Int32 ⊕ Nat) × mH)) (h : mH) (v8_ : Int32) : Option ((Int32 ⊕ Nat) × mH) :=
  (if (J 97) ≤ v8_ then (K107 h) else (gO Θ h 0 f0_ (bx (P_F_levelAfter Θ N h f0_ v8_) (fun v17 h16 => (bo (aW Θ h16 0 f4_ v8_ v17) (fun h18 => (rc h18 (v8_ + (J 1)))))) (fun n9 h9 => xp n9 h9))))
noncomputable def P_W_areHoursRight_83 (Θ : mW) (N : Nat) (K107 : mH → Option ((Int32 ⊕ Nat) × mH)) (f0_ : Nat) (f1_ : Int32) (f2_ : Int32) (f4_ : Nat) (f5_ : Int32) (f6_ : Int32) (f7_ : Int32) : Nat → mH → Int32 → Option ((Int32 ⊕ Nat) × mH) :=
  lp (fun _ _ => none) (B_W_areHoursRight_83 Θ N K107 f0_ f1_ f2_ f4_ f5_ f6_ f7_)
noncomputable def B_W_areHoursRight_128 (Θ : mW) (N : Nat) (K219 : mH → Int32 → Int32 → Option ((Int32 ⊕ Nat) × mH)) (f0_ : Nat) (f1_ : Int32) (f2_ : Int32) (f4_ : Nat) (f5_ : Int32) (f6_ : Int32) (rc : mH → Int32 → Int32 → Int32 → Option ((Int32 ⊕ Nat) × mH)) (h : mH) (v7_ : Int32) (v8_ : Int32) (v9_ : Int32) : Option ((Int32 ⊕ Nat) × mH) :=
  (if (J 97) ≤ v9_ then (K219 h v7_ v8_) else (gO Θ h 0 f0_ (bx (P_F_pass Θ N h f0_ (J 1)) (fun v27 h26 => (jn (fun (h29 : mH) (s30 : Int32) => (jn (fun (h32 : mH) (s33 : Int32) => (rc h32 s33 s30 (v9_ + (J 1)))) (fun j31 => (jn (fun (h35 : mH) => (j31 h35 v7_)) (fun j34 => (if f5_ = 0 then (j34 h29) else (if v7_ = (J (-2005)) then (gO Θ h29 0 f0_ (bx (P_F_isAfloat Θ N h29 f0_ f1_) (fun v37 h36 => (if v37 = 0 then (j34 h36) else (j31 h36 v9_))) (fun n9 h9 => xp n9 h9))) else (j34 h29)))))))) (fun j28 => (jn (fun (h39 : mH) => (j28 h39 (J 0))) (fun j38 => (if v8_ = 0 then (j38 h26) else (gO Θ h26 0 f0_ (bc (P_F_level Θ N h26 f0_) (fun v41 h40 => (bo (aR Θ h40 0 f4_ v9_) (fun v42 => (if v41 = v42 then (gO Θ h40 0 f0_ (bc (P_F_level Θ N h40 f0_) (fun v44 h43 => (if v44 < 0 then (j38 h43) else (gO Θ h43 0 f0_ (bc (P_F_level Θ N h43 f0_) (fun v46 h45 => (if (J 200) < v46 then (j38 h45) else (j28 h45 (J 1)))))))))) else (j38 h40))))))))))))) (fun n9 h9 => xp n9 h9))))
noncomputable def P_W_areHoursRight_128 (Θ : mW) (N : Nat) (K219 : mH → Int32 → Int32 → Option ((Int32 ⊕ Nat) × mH)) (f0_ : Nat) (f1_ : Int32) (f2_ : Int32) (f4_ : Nat) (f5_ : Int32) (f6_ : Int32) : Nat → mH → Int32 → Int32 → Int32 → Option ((Int32 ⊕ Nat) × mH) :=
  lp (fun _ _ _ _ => none) (B_W_areHoursRight_128 Θ N K219 f0_ f1_ f2_ f4_ f5_ f6_)
noncomputable def P_W_areHoursRight (Θ : mW) (N : Nat) (h : mH) (a0 : Nat) (a1 : Int32) : Option ((Int32 ⊕ Nat) × mH) :=
  (bx (P_W_looks Θ N h a0) (fun v2 h1 => (gO Θ h1 0 a0 (bc (P_F_save Θ N h1 a0) (fun v4 h3 => (ala Θ h3 4 (J 97) (fun n => .inl (0, n, .inl (fun _ => 0))) (fun q5 h6 => (jn (fun (h8 : mH) (s9 : Int32) => (jn (fun (h11 : mH) (s12 : Int32) => (jn (fun (h14 : mH) (s15 : Int32) => (P_W_areHoursRight_83 Θ N (fun h19 => (bo (aR Θ h19 0 q5 (J 0)) (fun v20 => (gO Θ h19 0 a0 (bc (P_F_level Θ N h19 a0) (fun v22 h21 => (jn (fun (h24 : mH) (s25 : Int32) => (P_W_areHoursRight_128 Θ N (fun h47 u48 u49 => (gO Θ h47 0 a0 (bx (P_F_restore Θ N h47 a0) (fun v51 h50 => (if u49 = 0 then (some (.inl (J 0), h50)) else (if s12 = u48 then (bx (P_W_looks Θ N h50 a0) (fun v53 h52 => (if v53 = v2 then (some (.inl (J 1), h52)) else (some (.inl (J 0), h52)))) (fun n9 h9 => xp n9 h9)) else (some (.inl (J 0), h50))))) (fun n9 h9 => xp n9 h9)))) a0 a1 v2 q5 s9 s12 N h24 s15 s25 (J 1))) (fun j23 => (if v20 = v22 then (j23 h21 (J 1)) else (j23 h21 (J 0))))))))))) a0 a1 v2 q5 s9 s12 s15 N h14 (J 0))) (fun j13 => (if 0 ≤ a1 then (gO Θ h11 0 a0 (bx (P_F_isAfloat Θ N h11 a0 a1) (fun v55 h54 => (if v55 = 0 then (j13 h54 (J (-2005))) else (j13 h54 (J 0)))) (fun n9 h9 => xp n9 h9))) else (j13 h11 (J (-2004))))))) (fun j10 => (if 0 ≤ a1 then (bc (P_W_ask Θ N h8 a0 (J 5) a1) (fun v57 h56 => (j10 h56 v57))) else (j10 h8 (J (-2004))))))) (fun j7 => (jn (fun (h59 : mH) => (j7 h59 (J 0))) (fun j58 => (if a1 < 0 then (j58 h6) else (gO Θ h6 0 a0 (bx (P_F_isInDock Θ N h6 a0 a1) (fun v61 h60 => (if v61 = 0 then (j58 h60) else (j7 h60 (J 1)))) (fun n9 h9 => xp n9 h9)))))))))))))) (fun n9 h9 => xp n9 h9))
theorem SB_W_areHoursRight_83 (hfl : HF l Θ) (hD : 12 ≤ d) {K107 : mH → Option ((Int32 ⊕ Nat) × mH)} {f0_ : Nat} {f1_ : Int32} {f2_ : Int32} {f4_ : Nat} {f5_ : Int32} {f6_ : Int32} {f7_ : Int32}  (hK107 : ∀ (h : mH), mY l Θ d M_W_areHoursRight 107 [some (.ref f0_), some (.int f1_), some (.int f2_), none, some (.ref f4_), some (.int f5_), some (.int f6_), some (.int f7_), none, none, none] [] h (tX vI) (K107 h)) (rc : mH → Int32 → Option ((Int32 ⊕ Nat) × mH)) (ih : ∀ (h : mH) (v8_ : Int32), mY l Θ d M_W_areHoursRight 83 [some (.ref f0_), some (.int f1_), some (.int f2_), none, some (.ref f4_), some (.int f5_), some (.int f6_), some (.int f7_), some (.int v8_), none, none] [] h (tX vI) (rc h v8_)) : ∀ (h : mH) (v8_ : Int32), mY l Θ d M_W_areHoursRight 83 [some (.ref f0_), some (.int f1_), some (.int f2_), none, some (.ref f4_), some (.int f5_), some (.int f6_), some (.int f7_), some (.int v8_), none, none] [] h (tX vI) (B_W_areHoursRight_83 Θ N K107 f0_ f1_ f2_ f4_ f5_ f6_ f7_ rc h v8_) := by
  intro h v8_
  unfold B_W_areHoursRight_83
  refine y_iload d_W_areHoursRight_83 rfl ?_
  refine y_bipush (v := (J 97)) d_W_areHoursRight_85 (by decide +kernel) ?_
  refine y_icmp_ge (tgt := 107) d_W_areHoursRight_87 (by decide) ?_ ?_
  · exact y_wk (loc2 := [some (.ref f0_), some (.int f1_), some (.int f2_), none, some (.ref f4_), some (.int f5_), some (.int f6_), some (.int f7_), none, none, none]) ⟨rfl, ⟨rfl, ⟨rfl, ⟨rfl, ⟨rfl, ⟨rfl, ⟨rfl, trivial⟩⟩⟩⟩⟩⟩⟩ (hK107 h)
  · refine y_aload d_W_areHoursRight_90 rfl ?_
    refine y_iload d_W_areHoursRight_92 rfl ?_
    refine y_aload_n d_W_areHoursRight_94 rfl ?_
    refine y_iload d_W_areHoursRight_95 rfl ?_
    refine y_gO (fun fs1 g1 => y_xI (c_vi (rest := [.int v8_, .ref f4_]) d_W_areHoursRight_97 k_F_levelAfter s_W_87 (Or.inl ⟨_, _, _, g1, rfl, rfl⟩) rfl rfl (Nat.le_of_ble_eq_true rfl) (Nat.le_trans (Nat.le_of_ble_eq_true rfl : 7 + 1 ≤ 12) hD) (S_F_levelAfter hfl (Nat.le_refl _) h f0_ v8_)) (fun v17 h16 => ?_) (fun _ _ => y_hp rfl))
    refine y_iast d_W_areHoursRight_100 (fun h18 => ?_)
    refine y_iinc (v := (v8_ + (J 1))) (loc2 := [some (.ref f0_), some (.int f1_), some (.int f2_), none, some (.ref f4_), some (.int f5_), some (.int f6_), some (.int f7_), some (.int (v8_ + (J 1))), none, none]) d_W_areHoursRight_101 rfl rfl (Nat.le_of_ble_eq_true rfl) rfl rfl ?_
    refine y_goto (tgt := 83) d_W_areHoursRight_104 (by decide) ?_
    exact ih h18 (v8_ + (J 1))
theorem S_W_areHoursRight_83 (hfl : HF l Θ) (hD : 12 ≤ d) {K107 : mH → Option ((Int32 ⊕ Nat) × mH)} {f0_ : Nat} {f1_ : Int32} {f2_ : Int32} {f4_ : Nat} {f5_ : Int32} {f6_ : Int32} {f7_ : Int32}  (hK107 : ∀ (h : mH), mY l Θ d M_W_areHoursRight 107 [some (.ref f0_), some (.int f1_), some (.int f2_), none, some (.ref f4_), some (.int f5_), some (.int f6_), some (.int f7_), none, none, none] [] h (tX vI) (K107 h)) : ∀ (n : Nat) (h : mH) (v8_ : Int32), mY l Θ d M_W_areHoursRight 83 [some (.ref f0_), some (.int f1_), some (.int f2_), none, some (.ref f4_), some (.int f5_), some (.int f6_), some (.int f7_), some (.int v8_), none, none] [] h (tX vI) (P_W_areHoursRight_83 Θ N K107 f0_ f1_ f2_ f4_ f5_ f6_ f7_ n h v8_) :=
  fun n => lp_all (C := fun (rc : mH → Int32 → Option ((Int32 ⊕ Nat) × mH)) => ∀ (h : mH) (v8_ : Int32), mY l Θ d M_W_areHoursRight 83 [some (.ref f0_), some (.int f1_), some (.int f2_), none, some (.ref f4_), some (.int f5_), some (.int f6_), some (.int f7_), some (.int v8_), none, none] [] h (tX vI) (rc h v8_)) (fun _ _ => y_none) (fun rc ih => SB_W_areHoursRight_83 hfl hD hK107 rc ih) n
theorem SB_W_areHoursRight_128 (hfl : HF l Θ) (hD : 12 ≤ d) {K219 : mH → Int32 → Int32 → Option ((Int32 ⊕ Nat) × mH)} {f0_ : Nat} {f1_ : Int32} {f2_ : Int32} {f4_ : Nat} {f5_ : Int32} {f6_ : Int32}  (hK219 : ∀ (h : mH) (v7_ : Int32) (v8_ : Int32), mY l Θ d M_W_areHoursRight 219 [some (.ref f0_), none, some (.int f2_), none, none, none, some (.int f6_), some (.int v7_), some (.int v8_), none, none] [] h (tX vI) (K219 h v7_ v8_)) (rc : mH → Int32 → Int32 → Int32 → Option ((Int32 ⊕ Nat) × mH)) (ih : ∀ (h : mH) (v7_ : Int32) (v8_ : Int32) (v9_ : Int32), mY l Θ d M_W_areHoursRight 128 [some (.ref f0_), some (.int f1_), some (.int f2_), none, some (.ref f4_), some (.int f5_), some (.int f6_), some (.int v7_), some (.int v8_), some (.int v9_), none] [] h (tX vI) (rc h v7_ v8_ v9_)) : ∀ (h : mH) (v7_ : Int32) (v8_ : Int32) (v9_ : Int32), mY l Θ d M_W_areHoursRight 128 [some (.ref f0_), some (.int f1_), some (.int f2_), none, some (.ref f4_), some (.int f5_), some (.int f6_), some (.int v7_), some (.int v8_), some (.int v9_), none] [] h (tX vI) (B_W_areHoursRight_128 Θ N K219 f0_ f1_ f2_ f4_ f5_ f6_ rc h v7_ v8_ v9_) := by
  intro h v7_ v8_ v9_
  unfold B_W_areHoursRight_128
  refine y_iload d_W_areHoursRight_128 rfl ?_
  refine y_bipush (v := (J 97)) d_W_areHoursRight_130 (by decide +kernel) ?_
  refine y_icmp_ge (tgt := 219) d_W_areHoursRight_132 (by decide) ?_ ?_
  · exact y_wk (loc2 := [some (.ref f0_), none, some (.int f2_), none, none, none, some (.int f6_), some (.int v7_), some (.int v8_), none, none]) ⟨rfl, ⟨rfl, ⟨rfl, ⟨rfl, ⟨rfl, trivial⟩⟩⟩⟩⟩ (hK219 h v7_ v8_)
  · refine y_aload_n d_W_areHoursRight_135 rfl ?_
    refine y_iconst (v := (J 1)) d_W_areHoursRight_136 rfl ?_
    refine y_gO (fun fs1 g1 => y_xI (c_vi (rest := []) d_W_areHoursRight_137 k_F_pass s_W_47 (Or.inl ⟨_, _, _, g1, rfl, rfl⟩) rfl rfl (Nat.le_of_ble_eq_true rfl) (Nat.le_trans (Nat.le_of_ble_eq_true rfl : 7 + 1 ≤ 12) hD) (S_F_pass hfl (Nat.le_refl _) h f0_ (J 1))) (fun v27 h26 => ?_) (fun _ _ => y_hp rfl))
    refine y_istore (loc2 := [some (.ref f0_), some (.int f1_), some (.int f2_), none, some (.ref f4_), some (.int f5_), some (.int f6_), some (.int v7_), some (.int v8_), some (.int v9_), some (.int v27)]) d_W_areHoursRight_140 (Nat.le_of_ble_eq_true rfl) rfl rfl ?_
    refine y_iload d_W_areHoursRight_142 rfl ?_
    refine y_jn (C := fun (j9 : mH → Int32 → Option ((Int32 ⊕ Nat) × mH)) => ∀ (h29 : mH) (s30 : Int32), mY l Θ d M_W_areHoursRight 181 [some (.ref f0_), some (.int f1_), some (.int f2_), none, some (.ref f4_), some (.int f5_), some (.int f6_), some (.int v7_), none, some (.int v9_), none] [.int s30] h29 (tX vI) (j9 h29 s30)) (fun h29 s30 => ?_) (fun j28 Hj28 => ?_)
    · refine y_istore (loc2 := [some (.ref f0_), some (.int f1_), some (.int f2_), none, some (.ref f4_), some (.int f5_), some (.int f6_), some (.int v7_), some (.int s30), some (.int v9_), none]) d_W_areHoursRight_181 (Nat.le_of_ble_eq_true rfl) rfl rfl ?_
      refine y_iload d_W_areHoursRight_183 rfl ?_
      refine y_jn (C := fun (j9 : mH → Int32 → Option ((Int32 ⊕ Nat) × mH)) => ∀ (h32 : mH) (s33 : Int32), mY l Θ d M_W_areHoursRight 211 [some (.ref f0_), some (.int f1_), some (.int f2_), none, some (.ref f4_), some (.int f5_), some (.int f6_), none, some (.int s30), some (.int v9_), none] [.int s33] h32 (tX vI) (j9 h32 s33)) (fun h32 s33 => ?_) (fun j31 Hj31 => ?_)
      · refine y_istore (loc2 := [some (.ref f0_), some (.int f1_), some (.int f2_), none, some (.ref f4_), some (.int f5_), some (.int f6_), some (.int s33), some (.int s30), some (.int v9_), none]) d_W_areHoursRight_211 (Nat.le_of_ble_eq_true rfl) rfl rfl ?_
        refine y_iinc (v := (v9_ + (J 1))) (loc2 := [some (.ref f0_), some (.int f1_), some (.int f2_), none, some (.ref f4_), some (.int f5_), some (.int f6_), some (.int s33), some (.int s30), some (.int (v9_ + (J 1))), none]) d_W_areHoursRight_213 rfl rfl (Nat.le_of_ble_eq_true rfl) rfl rfl ?_
        refine y_goto (tgt := 128) d_W_areHoursRight_216 (by decide) ?_
        exact ih h32 s33 s30 (v9_ + (J 1))
      · refine y_jn (C := fun (j9 : mH → Option ((Int32 ⊕ Nat) × mH)) => ∀ (h35 : mH), mY l Θ d M_W_areHoursRight 209 [some (.ref f0_), some (.int f1_), some (.int f2_), none, some (.ref f4_), some (.int f5_), some (.int f6_), some (.int v7_), some (.int s30), some (.int v9_), none] [] h35 (tX vI) (j9 h35)) (fun h35 => ?_) (fun j34 Hj34 => ?_)
        · refine y_iload d_W_areHoursRight_209 rfl ?_
          exact y_wk (loc2 := [some (.ref f0_), some (.int f1_), some (.int f2_), none, some (.ref f4_), some (.int f5_), some (.int f6_), none, some (.int s30), some (.int v9_), none]) ⟨rfl, ⟨rfl, ⟨rfl, ⟨rfl, ⟨rfl, ⟨rfl, ⟨rfl, ⟨rfl, trivial⟩⟩⟩⟩⟩⟩⟩⟩ (Hj31 h35 v7_)
        · refine y_if_eq (tgt := 209) d_W_areHoursRight_185 (by decide) ?_ ?_
          · exact Hj34 h29
          · refine y_iload d_W_areHoursRight_188 rfl ?_
            refine y_sipush (v := (J (-2005))) d_W_areHoursRight_190 (by decide +kernel) ?_
            refine y_icmp_ne (tgt := 209) d_W_areHoursRight_193 (by decide) ?_ ?_
            · exact Hj34 h29
            · refine y_aload_n d_W_areHoursRight_196 rfl ?_
              refine y_iload_n d_W_areHoursRight_197 rfl ?_
              refine y_gO (fun fs1 g1 => y_xI (c_vi (rest := []) d_W_areHoursRight_198 k_F_isAfloat s_W_224 (Or.inl ⟨_, _, _, g1, rfl, rfl⟩) rfl rfl (Nat.le_of_ble_eq_true rfl) (Nat.le_trans (Nat.le_of_ble_eq_true rfl : 7 + 1 ≤ 12) hD) (S_F_isAfloat hfl (Nat.le_refl _) h29 f0_ f1_)) (fun v37 h36 => ?_) (fun _ _ => y_hp rfl))
              refine y_if_eq (tgt := 209) d_W_areHoursRight_201 (by decide) ?_ ?_
              · exact Hj34 h36
              · refine y_iload d_W_areHoursRight_204 rfl ?_
                refine y_goto (tgt := 211) d_W_areHoursRight_206 (by decide) ?_
                exact y_wk (loc2 := [some (.ref f0_), some (.int f1_), some (.int f2_), none, some (.ref f4_), some (.int f5_), some (.int f6_), none, some (.int s30), some (.int v9_), none]) ⟨rfl, ⟨rfl, ⟨rfl, ⟨rfl, ⟨rfl, ⟨rfl, ⟨rfl, ⟨rfl, trivial⟩⟩⟩⟩⟩⟩⟩⟩ (Hj31 h36 v9_)
    · refine y_jn (C := fun (j9 : mH → Option ((Int32 ⊕ Nat) × mH)) => ∀ (h39 : mH), mY l Θ d M_W_areHoursRight 180 [some (.ref f0_), some (.int f1_), some (.int f2_), none, some (.ref f4_), some (.int f5_), some (.int f6_), some (.int v7_), none, some (.int v9_), none] [] h39 (tX vI) (j9 h39)) (fun h39 => ?_) (fun j38 Hj38 => ?_)
      · refine y_iconst (v := (J 0)) d_W_areHoursRight_180 rfl ?_
        exact Hj28 h39 (J 0)
      · refine y_if_eq (tgt := 180) d_W_areHoursRight_144 (by decide) ?_ ?_
        · exact y_wk (loc2 := [some (.ref f0_), some (.int f1_), some (.int f2_), none, some (.ref f4_), some (.int f5_), some (.int f6_), some (.int v7_), none, some (.int v9_), none]) ⟨rfl, ⟨rfl, ⟨rfl, ⟨rfl, ⟨rfl, ⟨rfl, ⟨rfl, ⟨rfl, trivial⟩⟩⟩⟩⟩⟩⟩⟩ (Hj38 h26)
        · refine y_aload_n d_W_areHoursRight_147 rfl ?_
          refine y_gO (fun fs1 g1 => y_cI (c_vi (rest := []) d_W_areHoursRight_148 k_F_level s_W_153 (Or.inl ⟨_, _, _, g1, rfl, rfl⟩) rfl rfl (Nat.le_of_ble_eq_true rfl) (Nat.le_trans (Nat.le_of_ble_eq_true rfl : 1 + 1 ≤ 12) hD) (S_F_level hfl (Nat.le_refl _) h26 f0_)) (fun v41 h40 => ?_))
          refine y_aload d_W_areHoursRight_151 rfl ?_
          refine y_iload d_W_areHoursRight_153 rfl ?_
          refine y_iald d_W_areHoursRight_155 (fun v42 => ?_)
          refine y_icmp_ne (tgt := 180) d_W_areHoursRight_156 (by decide) ?_ ?_
          · exact y_wk (loc2 := [some (.ref f0_), some (.int f1_), some (.int f2_), none, some (.ref f4_), some (.int f5_), some (.int f6_), some (.int v7_), none, some (.int v9_), none]) ⟨rfl, ⟨rfl, ⟨rfl, ⟨rfl, ⟨rfl, ⟨rfl, ⟨rfl, ⟨rfl, trivial⟩⟩⟩⟩⟩⟩⟩⟩ (Hj38 h40)
          · refine y_aload_n d_W_areHoursRight_159 rfl ?_
            refine y_gO (fun fs1 g1 => y_cI (c_vi (rest := []) d_W_areHoursRight_160 k_F_level s_W_153 (Or.inl ⟨_, _, _, g1, rfl, rfl⟩) rfl rfl (Nat.le_of_ble_eq_true rfl) (Nat.le_trans (Nat.le_of_ble_eq_true rfl : 1 + 1 ≤ 12) hD) (S_F_level hfl (Nat.le_refl _) h40 f0_)) (fun v44 h43 => ?_))
            refine y_if_lt (tgt := 180) d_W_areHoursRight_163 (by decide) ?_ ?_
            · exact y_wk (loc2 := [some (.ref f0_), some (.int f1_), some (.int f2_), none, some (.ref f4_), some (.int f5_), some (.int f6_), some (.int v7_), none, some (.int v9_), none]) ⟨rfl, ⟨rfl, ⟨rfl, ⟨rfl, ⟨rfl, ⟨rfl, ⟨rfl, ⟨rfl, trivial⟩⟩⟩⟩⟩⟩⟩⟩ (Hj38 h43)
            · refine y_aload_n d_W_areHoursRight_166 rfl ?_
              refine y_gO (fun fs1 g1 => y_cI (c_vi (rest := []) d_W_areHoursRight_167 k_F_level s_W_153 (Or.inl ⟨_, _, _, g1, rfl, rfl⟩) rfl rfl (Nat.le_of_ble_eq_true rfl) (Nat.le_trans (Nat.le_of_ble_eq_true rfl : 1 + 1 ≤ 12) hD) (S_F_level hfl (Nat.le_refl _) h43 f0_)) (fun v46 h45 => ?_))
              refine y_sipush (v := (J 200)) d_W_areHoursRight_170 (by decide +kernel) ?_
              refine y_icmp_gt (tgt := 180) d_W_areHoursRight_173 (by decide) ?_ ?_
              · exact y_wk (loc2 := [some (.ref f0_), some (.int f1_), some (.int f2_), none, some (.ref f4_), some (.int f5_), some (.int f6_), some (.int v7_), none, some (.int v9_), none]) ⟨rfl, ⟨rfl, ⟨rfl, ⟨rfl, ⟨rfl, ⟨rfl, ⟨rfl, ⟨rfl, trivial⟩⟩⟩⟩⟩⟩⟩⟩ (Hj38 h45)
              · refine y_iconst (v := (J 1)) d_W_areHoursRight_176 rfl ?_
                refine y_goto (tgt := 181) d_W_areHoursRight_177 (by decide) ?_
                exact y_wk (loc2 := [some (.ref f0_), some (.int f1_), some (.int f2_), none, some (.ref f4_), some (.int f5_), some (.int f6_), some (.int v7_), none, some (.int v9_), none]) ⟨rfl, ⟨rfl, ⟨rfl, ⟨rfl, ⟨rfl, ⟨rfl, ⟨rfl, ⟨rfl, trivial⟩⟩⟩⟩⟩⟩⟩⟩ (Hj28 h45 (J 1))
theorem S_W_areHoursRight_128 (hfl : HF l Θ) (hD : 12 ≤ d) {K219 : mH → Int32 → Int32 → Option ((Int32 ⊕ Nat) × mH)} {f0_ : Nat} {f1_ : Int32} {f2_ : Int32} {f4_ : Nat} {f5_ : Int32} {f6_ : Int32}  (hK219 : ∀ (h : mH) (v7_ : Int32) (v8_ : Int32), mY l Θ d M_W_areHoursRight 219 [some (.ref f0_), none, some (.int f2_), none, none, none, some (.int f6_), some (.int v7_), some (.int v8_), none, none] [] h (tX vI) (K219 h v7_ v8_)) : ∀ (n : Nat) (h : mH) (v7_ : Int32) (v8_ : Int32) (v9_ : Int32), mY l Θ d M_W_areHoursRight 128 [some (.ref f0_), some (.int f1_), some (.int f2_), none, some (.ref f4_), some (.int f5_), some (.int f6_), some (.int v7_), some (.int v8_), some (.int v9_), none] [] h (tX vI) (P_W_areHoursRight_128 Θ N K219 f0_ f1_ f2_ f4_ f5_ f6_ n h v7_ v8_ v9_) :=
  fun n => lp_all (C := fun (rc : mH → Int32 → Int32 → Int32 → Option ((Int32 ⊕ Nat) × mH)) => ∀ (h : mH) (v7_ : Int32) (v8_ : Int32) (v9_ : Int32), mY l Θ d M_W_areHoursRight 128 [some (.ref f0_), some (.int f1_), some (.int f2_), none, some (.ref f4_), some (.int f5_), some (.int f6_), some (.int v7_), some (.int v8_), some (.int v9_), none] [] h (tX vI) (rc h v7_ v8_ v9_)) (fun _ _ _ _ => y_none) (fun rc ih => SB_W_areHoursRight_128 hfl hD hK219 rc ih) n
theorem S_W_areHoursRight (hfl : HF l Θ) (hD : 12 ≤ d) (h : mH) (a0 : Nat) (a1 : Int32) : mMs l Θ d M_W_areHoursRight [.ref a0, .int a1] h (tX vI) (P_W_areHoursRight Θ N h a0 a1) := by
  refine mMs.of hfl (by decide +kernel) rfl (Nat.le_of_ble_eq_true rfl) (loc := [some (.ref a0), some (.int a1), none, none, none, none, none, none, none, none, none]) rfl ?_
  unfold P_W_areHoursRight
  refine y_aload_n d_W_areHoursRight_0 rfl ?_
  refine y_xI (c_st (rest := []) d_W_areHoursRight_1 k_W_looks s_W_283 rfl rfl (Nat.le_of_ble_eq_true rfl) (Nat.le_trans (Nat.le_of_ble_eq_true rfl : 11 + 1 ≤ 12) hD) (S_W_looks hfl (Nat.le_refl _) h a0)) (fun v2 h1 => ?_) (fun _ _ => y_hp rfl)
  refine y_istore_n (loc2 := [some (.ref a0), some (.int a1), some (.int v2), none, none, none, none, none, none, none, none]) d_W_areHoursRight_4 (Nat.le_of_ble_eq_true rfl) rfl rfl ?_
  refine y_aload_n d_W_areHoursRight_5 rfl ?_
  refine y_gO (fun fs1 g1 => y_cI (c_vi (rest := []) d_W_areHoursRight_6 k_F_save s_W_271 (Or.inl ⟨_, _, _, g1, rfl, rfl⟩) rfl rfl (Nat.le_of_ble_eq_true rfl) (Nat.le_trans (Nat.le_of_ble_eq_true rfl : 5 + 1 ≤ 12) hD) (S_F_save hfl (Nat.le_refl _) h1 a0)) (fun v4 h3 => ?_))
  refine y_istore_n (loc2 := [some (.ref a0), some (.int a1), some (.int v2), some (.int v4), none, none, none, none, none, none, none]) d_W_areHoursRight_9 (Nat.le_of_ble_eq_true rfl) rfl rfl ?_
  refine y_bipush (v := (J 97)) d_W_areHoursRight_10 (by decide +kernel) ?_
  refine y_newarr (ty := .int) (a0 := fun n => (n, .inl (fun _ => 0))) d_W_areHoursRight_12 rfl (fun _ => rfl) (mG (1, 144) (by decide +kernel)) (fun _ _ => rfl) (fun _ => rfl) rfl (fun q5 h6 => ?_)
  refine y_astore (loc2 := [some (.ref a0), some (.int a1), some (.int v2), some (.int v4), some (.ref q5), none, none, none, none, none, none]) d_W_areHoursRight_14 (Nat.le_of_ble_eq_true rfl) rfl rfl ?_
  refine y_iload_n d_W_areHoursRight_16 rfl ?_
  refine y_jn (C := fun (j9 : mH → Int32 → Option ((Int32 ⊕ Nat) × mH)) => ∀ (h8 : mH) (s9 : Int32), mY l Θ d M_W_areHoursRight 33 [some (.ref a0), some (.int a1), some (.int v2), none, some (.ref q5), none, none, none, none, none, none] [.int s9] h8 (tX vI) (j9 h8 s9)) (fun h8 s9 => ?_) (fun j7 Hj7 => ?_)
  · refine y_istore (loc2 := [some (.ref a0), some (.int a1), some (.int v2), none, some (.ref q5), some (.int s9), none, none, none, none, none]) d_W_areHoursRight_33 (Nat.le_of_ble_eq_true rfl) rfl rfl ?_
    refine y_iload_n d_W_areHoursRight_35 rfl ?_
    refine y_jn (C := fun (j9 : mH → Int32 → Option ((Int32 ⊕ Nat) × mH)) => ∀ (h11 : mH) (s12 : Int32), mY l Θ d M_W_areHoursRight 51 [some (.ref a0), some (.int a1), some (.int v2), none, some (.ref q5), some (.int s9), none, none, none, none, none] [.int s12] h11 (tX vI) (j9 h11 s12)) (fun h11 s12 => ?_) (fun j10 Hj10 => ?_)
    · refine y_istore (loc2 := [some (.ref a0), some (.int a1), some (.int v2), none, some (.ref q5), some (.int s9), some (.int s12), none, none, none, none]) d_W_areHoursRight_51 (Nat.le_of_ble_eq_true rfl) rfl rfl ?_
      refine y_iload_n d_W_areHoursRight_53 rfl ?_
      refine y_jn (C := fun (j9 : mH → Int32 → Option ((Int32 ⊕ Nat) × mH)) => ∀ (h14 : mH) (s15 : Int32), mY l Θ d M_W_areHoursRight 78 [some (.ref a0), some (.int a1), some (.int v2), none, some (.ref q5), some (.int s9), some (.int s12), none, none, none, none] [.int s15] h14 (tX vI) (j9 h14 s15)) (fun h14 s15 => ?_) (fun j13 Hj13 => ?_)
      · refine y_istore (loc2 := [some (.ref a0), some (.int a1), some (.int v2), none, some (.ref q5), some (.int s9), some (.int s12), some (.int s15), none, none, none]) d_W_areHoursRight_78 (Nat.le_of_ble_eq_true rfl) rfl rfl ?_
        refine y_iconst (v := (J 0)) d_W_areHoursRight_80 rfl ?_
        refine y_istore (loc2 := [some (.ref a0), some (.int a1), some (.int v2), none, some (.ref q5), some (.int s9), some (.int s12), some (.int s15), some (.int (J 0)), none, none]) d_W_areHoursRight_81 (Nat.le_of_ble_eq_true rfl) rfl rfl ?_
        refine S_W_areHoursRight_83 hfl hD (fun h19 => ?_) N h14 (J 0)
        refine y_aload d_W_areHoursRight_107 rfl ?_
        refine y_iconst (v := (J 0)) d_W_areHoursRight_109 rfl ?_
        refine y_iald d_W_areHoursRight_110 (fun v20 => ?_)
        refine y_aload_n d_W_areHoursRight_111 rfl ?_
        refine y_gO (fun fs1 g1 => y_cI (c_vi (rest := [.int v20]) d_W_areHoursRight_112 k_F_level s_W_153 (Or.inl ⟨_, _, _, g1, rfl, rfl⟩) rfl rfl (Nat.le_of_ble_eq_true rfl) (Nat.le_trans (Nat.le_of_ble_eq_true rfl : 1 + 1 ≤ 12) hD) (S_F_level hfl (Nat.le_refl _) h19 a0)) (fun v22 h21 => ?_))
        refine y_jn (C := fun (j9 : mH → Int32 → Option ((Int32 ⊕ Nat) × mH)) => ∀ (h24 : mH) (s25 : Int32), mY l Θ d M_W_areHoursRight 123 [some (.ref a0), some (.int a1), some (.int v2), none, some (.ref q5), some (.int s9), some (.int s12), some (.int s15), none, none, none] [.int s25] h24 (tX vI) (j9 h24 s25)) (fun h24 s25 => ?_) (fun j23 Hj23 => ?_)
        · refine y_istore (loc2 := [some (.ref a0), some (.int a1), some (.int v2), none, some (.ref q5), some (.int s9), some (.int s12), some (.int s15), some (.int s25), none, none]) d_W_areHoursRight_123 (Nat.le_of_ble_eq_true rfl) rfl rfl ?_
          refine y_iconst (v := (J 1)) d_W_areHoursRight_125 rfl ?_
          refine y_istore (loc2 := [some (.ref a0), some (.int a1), some (.int v2), none, some (.ref q5), some (.int s9), some (.int s12), some (.int s15), some (.int s25), some (.int (J 1)), none]) d_W_areHoursRight_126 (Nat.le_of_ble_eq_true rfl) rfl rfl ?_
          refine S_W_areHoursRight_128 hfl hD (fun h47 u48 u49 => ?_) N h24 s15 s25 (J 1)
          refine y_aload_n d_W_areHoursRight_219 rfl ?_
          refine y_gO (fun fs1 g1 => y_xI (c_vi (rest := []) d_W_areHoursRight_220 k_F_restore s_W_277 (Or.inl ⟨_, _, _, g1, rfl, rfl⟩) rfl rfl (Nat.le_of_ble_eq_true rfl) (Nat.le_trans (Nat.le_of_ble_eq_true rfl : 6 + 1 ≤ 12) hD) (S_F_restore hfl (Nat.le_refl _) h47 a0)) (fun v51 h50 => ?_) (fun _ _ => y_hp rfl))
          refine y_istore_n (loc2 := [some (.ref a0), none, some (.int v2), some (.int v51), none, none, some (.int s12), some (.int u48), some (.int u49), none, none]) d_W_areHoursRight_223 (Nat.le_of_ble_eq_true rfl) rfl rfl ?_
          refine y_iload d_W_areHoursRight_224 rfl ?_
          refine y_if_eq (tgt := 248) d_W_areHoursRight_226 (by decide) ?_ ?_
          · refine y_iconst (v := (J 0)) d_W_areHoursRight_248 rfl ?_
            exact y_retIX d_W_areHoursRight_249 rfl (by decide +kernel)
          · refine y_iload d_W_areHoursRight_229 rfl ?_
            refine y_iload d_W_areHoursRight_231 rfl ?_
            refine y_icmp_ne (tgt := 248) d_W_areHoursRight_233 (by decide) ?_ ?_
            · refine y_iconst (v := (J 0)) d_W_areHoursRight_248 rfl ?_
              exact y_retIX d_W_areHoursRight_249 rfl (by decide +kernel)
            · refine y_aload_n d_W_areHoursRight_236 rfl ?_
              refine y_xI (c_st (rest := []) d_W_areHoursRight_237 k_W_looks s_W_283 rfl rfl (Nat.le_of_ble_eq_true rfl) (Nat.le_trans (Nat.le_of_ble_eq_true rfl : 11 + 1 ≤ 12) hD) (S_W_looks hfl (Nat.le_refl _) h50 a0)) (fun v53 h52 => ?_) (fun _ _ => y_hp rfl)
              refine y_iload_n d_W_areHoursRight_240 rfl ?_
              refine y_icmp_ne (tgt := 248) d_W_areHoursRight_241 (by decide) ?_ ?_
              · refine y_iconst (v := (J 0)) d_W_areHoursRight_248 rfl ?_
                exact y_retIX d_W_areHoursRight_249 rfl (by decide +kernel)
              · refine y_iconst (v := (J 1)) d_W_areHoursRight_244 rfl ?_
                refine y_goto (tgt := 249) d_W_areHoursRight_245 (by decide) ?_
                exact y_retIX d_W_areHoursRight_249 rfl (by decide +kernel)
        · refine y_icmp_ne (tgt := 122) d_W_areHoursRight_115 (by decide) ?_ ?_
          · refine y_iconst (v := (J 0)) d_W_areHoursRight_122 rfl ?_
            exact Hj23 h21 (J 0)
          · refine y_iconst (v := (J 1)) d_W_areHoursRight_118 rfl ?_
            refine y_goto (tgt := 123) d_W_areHoursRight_119 (by decide) ?_
            exact Hj23 h21 (J 1)
      · refine y_if_ge (tgt := 63) d_W_areHoursRight_54 (by decide) ?_ ?_
        · refine y_aload_n d_W_areHoursRight_63 rfl ?_
          refine y_iload_n d_W_areHoursRight_64 rfl ?_
          refine y_gO (fun fs1 g1 => y_xI (c_vi (rest := []) d_W_areHoursRight_65 k_F_isAfloat s_W_224 (Or.inl ⟨_, _, _, g1, rfl, rfl⟩) rfl rfl (Nat.le_of_ble_eq_true rfl) (Nat.le_trans (Nat.le_of_ble_eq_true rfl : 7 + 1 ≤ 12) hD) (S_F_isAfloat hfl (Nat.le_refl _) h11 a0 a1)) (fun v55 h54 => ?_) (fun _ _ => y_hp rfl))
          refine y_if_eq (tgt := 75) d_W_areHoursRight_68 (by decide) ?_ ?_
          · refine y_sipush (v := (J (-2005))) d_W_areHoursRight_75 (by decide +kernel) ?_
            exact Hj13 h54 (J (-2005))
          · refine y_iconst (v := (J 0)) d_W_areHoursRight_71 rfl ?_
            refine y_goto (tgt := 78) d_W_areHoursRight_72 (by decide) ?_
            exact Hj13 h54 (J 0)
        · refine y_sipush (v := (J (-2004))) d_W_areHoursRight_57 (by decide +kernel) ?_
          refine y_goto (tgt := 78) d_W_areHoursRight_60 (by decide) ?_
          exact Hj13 h11 (J (-2004))
    · refine y_if_ge (tgt := 45) d_W_areHoursRight_36 (by decide) ?_ ?_
      · refine y_aload_n d_W_areHoursRight_45 rfl ?_
        refine y_iconst (v := (J 5)) d_W_areHoursRight_46 rfl ?_
        refine y_iload_n d_W_areHoursRight_47 rfl ?_
        refine y_cI (c_st (rest := []) d_W_areHoursRight_48 k_W_ask s_W_162 rfl rfl (Nat.le_of_ble_eq_true rfl) (Nat.le_trans (Nat.le_of_ble_eq_true rfl : 10 + 1 ≤ 12) hD) (S_W_ask hfl (Nat.le_refl _) h8 a0 (J 5) a1)) (fun v57 h56 => ?_)
        exact Hj10 h56 v57
      · refine y_sipush (v := (J (-2004))) d_W_areHoursRight_39 (by decide +kernel) ?_
        refine y_goto (tgt := 51) d_W_areHoursRight_42 (by decide) ?_
        exact Hj10 h8 (J (-2004))
  · refine y_jn (C := fun (j9 : mH → Option ((Int32 ⊕ Nat) × mH)) => ∀ (h59 : mH), mY l Θ d M_W_areHoursRight 32 [some (.ref a0), some (.int a1), some (.int v2), none, some (.ref q5), none, none, none, none, none, none] [] h59 (tX vI) (j9 h59)) (fun h59 => ?_) (fun j58 Hj58 => ?_)
    · refine y_iconst (v := (J 0)) d_W_areHoursRight_32 rfl ?_
      exact Hj7 h59 (J 0)
    · refine y_if_lt (tgt := 32) d_W_areHoursRight_17 (by decide) ?_ ?_
      · exact y_wk (loc2 := [some (.ref a0), some (.int a1), some (.int v2), none, some (.ref q5), none, none, none, none, none, none]) ⟨rfl, ⟨rfl, ⟨rfl, ⟨rfl, trivial⟩⟩⟩⟩ (Hj58 h6)
      · refine y_aload_n d_W_areHoursRight_20 rfl ?_
        refine y_iload_n d_W_areHoursRight_21 rfl ?_
        refine y_gO (fun fs1 g1 => y_xI (c_vi (rest := []) d_W_areHoursRight_22 k_F_isInDock s_W_239 (Or.inl ⟨_, _, _, g1, rfl, rfl⟩) rfl rfl (Nat.le_of_ble_eq_true rfl) (Nat.le_trans (Nat.le_of_ble_eq_true rfl : 7 + 1 ≤ 12) hD) (S_F_isInDock hfl (Nat.le_refl _) h6 a0 a1)) (fun v61 h60 => ?_) (fun _ _ => y_hp rfl))
        refine y_if_eq (tgt := 32) d_W_areHoursRight_25 (by decide) ?_ ?_
        · exact y_wk (loc2 := [some (.ref a0), some (.int a1), some (.int v2), none, some (.ref q5), none, none, none, none, none, none]) ⟨rfl, ⟨rfl, ⟨rfl, ⟨rfl, trivial⟩⟩⟩⟩ (Hj58 h60)
        · refine y_iconst (v := (J 1)) d_W_areHoursRight_28 rfl ?_
          refine y_goto (tgt := 33) d_W_areHoursRight_29 (by decide) ?_
          exact y_wk (loc2 := [some (.ref a0), some (.int a1), some (.int v2), none, some (.ref q5), none, none, none, none, none, none]) ⟨rfl, ⟨rfl, ⟨rfl, ⟨rfl, trivial⟩⟩⟩⟩ (Hj7 h60 (J 1))
end GP
