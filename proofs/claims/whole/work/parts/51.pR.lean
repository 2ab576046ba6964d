/-! programs of methods -/
section GP
variable {l : Launch} {Θ : mW} {d N : Nat}
noncomputable def P_R_init (Θ : mW) (N : Nat) (h : mH) (a0 : Nat) : Option (Unit × mH) :=
  (ala Θ h 4 (J 140) (fun n => .inl (0, n, .inl (fun _ => 0))) (fun q1 h2 => (bo (wF Θ h2 9 a0 0 (.ref q1)) (fun h3 => (ala Θ h3 4 (J 140) (fun n => .inl (0, n, .inl (fun _ => 0))) (fun q4 h5 => (bo (wF Θ h5 9 a0 1 (.ref q4)) (fun h6 => (ala Θ h6 4 (J 140) (fun n => .inl (0, n, .inl (fun _ => 0))) (fun q7 h8 => (bo (wF Θ h8 9 a0 2 (.ref q7)) (fun h9 => (ala Θ h9 4 (J 1120) (fun n => .inl (0, n, .inl (fun _ => 0))) (fun q10 h11 => (bo (wF Θ h11 9 a0 3 (.ref q10)) (fun h12 => (bo (wF Θ h12 9 a0 6 (.int (J (-1)))) (fun h13 => (bo (wF Θ h13 9 a0 7 (.int (J (-1)))) (fun h14 => (ala Θ h14 4 (J 60) (fun n => .inl (0, n, .inl (fun _ => 0))) (fun q15 h16 => (bo (wF Θ h16 9 a0 9 (.ref q15)) (fun h17 => (ala Θ h17 4 (J 80) (fun n => .inl (0, n, .inl (fun _ => 0))) (fun q18 h19 => (bo (wF Θ h19 9 a0 11 (.ref q18)) (fun h20 => (ala Θ h20 1 (J 256) (fun n => .inl (1, n, .inl (fun _ => 0))) (fun q21 h22 => (bo (wF Θ h22 9 a0 14 (.ref q21)) (fun h23 => (ala Θ h23 4 (J 120) (fun n => .inl (0, n, .inl (fun _ => 0))) (fun q24 h25 => (bo (wF Θ h25 9 a0 19 (.ref q24)) (fun h26 => (bo (rA Θ h26 9 a0 0) (fun v27 => (bo (aW Θ h26 0 v27 (J 0) (J 3)) (fun h28 => (bo (rA Θ h28 9 a0 0) (fun v29 => (bo (aW Θ h28 0 v29 (J 1) (J 100)) (fun h30 => (bo (rA Θ h30 9 a0 0) (fun v31 => (bo (aW Θ h30 0 v31 (J 2) (J 1)) (fun h32 => (some ((), h32))))))))))))))))))))))))))))))))))))))))))))))))))
theorem S_R_init (hfl : HF l Θ) (hD : 1 ≤ d) (h : mH) (a0 : Nat) : mMs l Θ d M_R_init [.ref a0] h (tR vU) (P_R_init Θ N h a0) := by
  refine mMs.of hfl (by decide +kernel) rfl (Nat.le_of_ble_eq_true rfl) (loc := [some (.ref a0)]) rfl ?_
  unfold P_R_init
  refine y_aload_n d_R_init_0 rfl ?_
  refine y_objInit d_R_init_1 s_R_3 (mG (1, 43) (by decide +kernel)) (mG (1, 44) (by decide +kernel)) (Nat.le_of_ble_eq_true rfl) (Nat.le_trans (Nat.le_of_ble_eq_true rfl) hD) ?_
  refine y_aload_n d_R_init_4 rfl ?_
  refine y_sipush (v := (J 140)) d_R_init_5 (by decide +kernel) ?_
  refine y_newarr (ty := .int) (a0 := fun n => (n, .inl (fun _ => 0))) d_R_init_8 rfl (fun _ => rfl) (mG (1, 145) (by decide +kernel)) (fun _ _ => rfl) (fun _ => rfl) rfl (fun q1 h2 => ?_)
  refine y_putF d_R_init_10 rfl pf_R_9 rfl rfl (fun h3 => ?_)
  refine y_aload_n d_R_init_13 rfl ?_
  refine y_sipush (v := (J 140)) d_R_init_14 (by decide +kernel) ?_
  refine y_newarr (ty := .int) (a0 := fun n => (n, .inl (fun _ => 0))) d_R_init_17 rfl (fun _ => rfl) (mG (1, 145) (by decide +kernel)) (fun _ _ => rfl) (fun _ => rfl) rfl (fun q4 h5 => ?_)
  refine y_putF d_R_init_19 rfl pf_R_13 rfl rfl (fun h6 => ?_)
  refine y_aload_n d_R_init_22 rfl ?_
  refine y_sipush (v := (J 140)) d_R_init_23 (by decide +kernel) ?_
  refine y_newarr (ty := .int) (a0 := fun n => (n, .inl (fun _ => 0))) d_R_init_26 rfl (fun _ => rfl) (mG (1, 145) (by decide +kernel)) (fun _ _ => rfl) (fun _ => rfl) rfl (fun q7 h8 => ?_)
  refine y_putF d_R_init_28 rfl pf_R_16 rfl rfl (fun h9 => ?_)
  refine y_aload_n d_R_init_31 rfl ?_
  refine y_sipush (v := (J 1120)) d_R_init_32 (by decide +kernel) ?_
  refine y_newarr (ty := .int) (a0 := fun n => (n, .inl (fun _ => 0))) d_R_init_35 rfl (fun _ => rfl) (mG (1, 145) (by decide +kernel)) (fun _ _ => rfl) (fun _ => rfl) rfl (fun q10 h11 => ?_)
  refine y_putF d_R_init_37 rfl pf_R_19 rfl rfl (fun h12 => ?_)
  refine y_aload_n d_R_init_40 rfl ?_
  refine y_iconst (v := (J (-1))) d_R_init_41 rfl ?_
  refine y_put d_R_init_42 p_R_22 rfl rfl (fun h13 => ?_)
  refine y_aload_n d_R_init_45 rfl ?_
  refine y_iconst (v := (J (-1))) d_R_init_46 rfl ?_
  refine y_put d_R_init_47 p_R_26 rfl rfl (fun h14 => ?_)
  refine y_aload_n d_R_init_50 rfl ?_
  refine y_bipush (v := (J 60)) d_R_init_51 (by decide +kernel) ?_
  refine y_newarr (ty := .int) (a0 := fun n => (n, .inl (fun _ => 0))) d_R_init_53 rfl (fun _ => rfl) (mG (1, 145) (by decide +kernel)) (fun _ _ => rfl) (fun _ => rfl) rfl (fun q15 h16 => ?_)
  refine y_putF d_R_init_55 rfl pf_R_29 rfl rfl (fun h17 => ?_)
  refine y_aload_n d_R_init_58 rfl ?_
  refine y_bipush (v := (J 80)) d_R_init_59 (by decide +kernel) ?_
  refine y_newarr (ty := .int) (a0 := fun n => (n, .inl (fun _ => 0))) d_R_init_61 rfl (fun _ => rfl) (mG (1, 145) (by decide +kernel)) (fun _ _ => rfl) (fun _ => rfl) rfl (fun q18 h19 => ?_)
  refine y_putF d_R_init_63 rfl pf_R_32 rfl rfl (fun h20 => ?_)
  refine y_aload_n d_R_init_66 rfl ?_
  refine y_sipush (v := (J 256)) d_R_init_67 (by decide +kernel) ?_
  refine y_newarr (ty := .boolean) (a0 := fun n => (n, .inl (fun _ => 0))) d_R_init_70 rfl (fun _ => rfl) (mG (1, 223) (by decide +kernel)) (fun _ _ => rfl) (fun _ => rfl) rfl (fun q21 h22 => ?_)
  refine y_putF d_R_init_72 rfl pf_R_35 rfl rfl (fun h23 => ?_)
  refine y_aload_n d_R_init_75 rfl ?_
  refine y_bipush (v := (J 120)) d_R_init_76 (by decide +kernel) ?_
  refine y_newarr (ty := .int) (a0 := fun n => (n, .inl (fun _ => 0))) d_R_init_78 rfl (fun _ => rfl) (mG (1, 145) (by decide +kernel)) (fun _ _ => rfl) (fun _ => rfl) rfl (fun q24 h25 => ?_)
  refine y_putF d_R_init_80 rfl pf_R_39 rfl rfl (fun h26 => ?_)
  refine y_aload_n d_R_init_83 rfl ?_
  refine y_getA d_R_init_84 f_R_9 (fun v27 => ?_)
  refine y_iconst (v := (J 0)) d_R_init_87 rfl ?_
  refine y_iconst (v := (J 3)) d_R_init_88 rfl ?_
  refine y_iast d_R_init_89 (fun h28 => ?_)
  refine y_aload_n d_R_init_90 rfl ?_
  refine y_getA d_R_init_91 f_R_9 (fun v29 => ?_)
  refine y_iconst (v := (J 1)) d_R_init_94 rfl ?_
  refine y_bipush (v := (J 100)) d_R_init_95 (by decide +kernel) ?_
  refine y_iast d_R_init_97 (fun h30 => ?_)
  refine y_aload_n d_R_init_98 rfl ?_
  refine y_getA d_R_init_99 f_R_9 (fun v31 => ?_)
  refine y_iconst (v := (J 2)) d_R_init_102 rfl ?_
  refine y_iconst (v := (J 1)) d_R_init_103 rfl ?_
  refine y_iast d_R_init_104 (fun h32 => ?_)
  exact y_retU d_R_init_105 rfl
noncomputable def P_R_thrown (Θ : mW) (N : Nat) (h : mH) (a0 : Nat) : Option (Int32 × mH) :=
  (bo (rI Θ h 9 a0 13) (fun v1 => (some (v1, h))))
theorem S_R_thrown (hfl : HF l Θ) (hD : 1 ≤ d) (h : mH) (a0 : Nat) : mMs l Θ d M_R_thrown [.ref a0] h (tR vI) (P_R_thrown Θ N h a0) := by
  refine mMs.of hfl (by decide +kernel) rfl (Nat.le_of_ble_eq_true rfl) (loc := [some (.ref a0)]) rfl ?_
  unfold P_R_thrown
  refine y_aload_n d_R_thrown_0 rfl ?_
  refine y_getI d_R_thrown_1 f_R_42 (fun v1 => ?_)
  exact y_retI d_R_thrown_4 rfl rfl
noncomputable def B_R_copies_3 (Θ : mW) (N : Nat) (K29 : mH → Option (Unit × mH)) (f0_ : Nat) (f1_ : Int32) (f2_ : Nat) (f3_ : Int32) (rc : mH → Int32 → Option (Unit × mH)) (h : mH) (v4_ : Int32) : Option (Unit × mH) :=
  (if (J 140) ≤ v4_ then (K29 h) else (bo (aR Θ h 0 f0_ (f1_ + v4_)) (fun v1 => (bo (aW Θ h 0 f2_ (f3_ + v4_) v1) (fun h2 => (rc h2 (v4_ + (J 1))))))))
noncomputable def P_R_copies_3 (Θ : mW) (N : Nat) (K29 : mH → Option (Unit × mH)) (f0_ : Nat) (f1_ : Int32) (f2_ : Nat) (f3_ : Int32) : Nat → mH → Int32 → Option (Unit × mH) :=
  lp (fun _ _ => none) (B_R_copies_3 Θ N K29 f0_ f1_ f2_ f3_)
noncomputable def P_R_copies (Θ : mW) (N : Nat) (h : mH) (a0 : Nat) (a1 : Int32) (a2 : Nat) (a3 : Int32) : Option (Unit × mH) :=
  (P_R_copies_3 Θ N (fun h3 => (some ((), h3))) a0 a1 a2 a3 N h (J 0))
theorem SB_R_copies_3 (hfl : HF l Θ) (hD : 1 ≤ d) {K29 : mH → Option (Unit × mH)} {f0_ : Nat} {f1_ : Int32} {f2_ : Nat} {f3_ : Int32}  (hK29 : ∀ (h : mH), mY l Θ d M_R_copies 29 [none, none, none, none, none] [] h (tR vU) (K29 h)) (rc : mH → Int32 → Option (Unit × mH)) (ih : ∀ (h : mH) (v4_ : Int32), mY l Θ d M_R_copies 3 [some (.ref f0_), some (.int f1_), some (.ref f2_), some (.int f3_), some (.int v4_)] [] h (tR vU) (rc h v4_)) : ∀ (h : mH) (v4_ : Int32), mY l Θ d M_R_copies 3 [some (.ref f0_), some (.int f1_), some (.ref f2_), some (.int f3_), some (.int v4_)] [] h (tR vU) (B_R_copies_3 Θ N K29 f0_ f1_ f2_ f3_ rc h v4_) := by
  intro h v4_
  unfold B_R_copies_3
  refine y_iload d_R_copies_3 rfl ?_
  refine y_sipush (v := (J 140)) d_R_copies_5 (by decide +kernel) ?_
  refine y_icmp_ge (tgt := 29) d_R_copies_8 (by decide) ?_ ?_
  · exact y_wk (loc2 := [none, none, none, none, none]) trivial (hK29 h)
  · refine y_aload_n d_R_copies_11 rfl ?_
    refine y_iload_n d_R_copies_12 rfl ?_
    refine y_iload d_R_copies_13 rfl ?_
    refine y_iadd (v := (f3_ + v4_)) d_R_copies_15 rfl ?_
    refine y_aload_n d_R_copies_16 rfl ?_
    refine y_iload_n d_R_copies_17 rfl ?_
    refine y_iload d_R_copies_18 rfl ?_
    refine y_iadd (v := (f1_ + v4_)) d_R_copies_20 rfl ?_
    refine y_iald d_R_copies_21 (fun v1 => ?_)
    refine y_iast d_R_copies_22 (fun h2 => ?_)
    refine y_iinc (v := (v4_ + (J 1))) (loc2 := [some (.ref f0_), some (.int f1_), some (.ref f2_), some (.int f3_), some (.int (v4_ + (J 1)))]) d_R_copies_23 rfl rfl (Nat.le_of_ble_eq_true rfl) rfl rfl ?_
    refine y_goto (tgt := 3) d_R_copies_26 (by decide) ?_
    exact ih h2 (v4_ + (J 1))
theorem S_R_copies_3 (hfl : HF l Θ) (hD : 1 ≤ d) {K29 : mH → Option (Unit × mH)} {f0_ : Nat} {f1_ : Int32} {f2_ : Nat} {f3_ : Int32}  (hK29 : ∀ (h : mH), mY l Θ d M_R_copies 29 [none, none, none, none, none] [] h (tR vU) (K29 h)) : ∀ (n : Nat) (h : mH) (v4_ : Int32), mY l Θ d M_R_copies 3 [some (.ref f0_), some (.int f1_), some (.ref f2_), some (.int f3_), some (.int v4_)] [] h (tR vU) (P_R_copies_3 Θ N K29 f0_ f1_ f2_ f3_ n h v4_) :=
  fun n => lp_all (C := fun (rc : mH → Int32 → Option (Unit × mH)) => ∀ (h : mH) (v4_ : Int32), mY l Θ d M_R_copies 3 [some (.ref f0_), some (.int f1_), some (.ref f2_), some (.int f3_), some (.int v4_)] [] h (tR vU) (rc h v4_)) (fun _ _ => y_none) (fun rc ih => SB_R_copies_3 hfl hD hK29 rc ih) n
theorem S_R_copies (hfl : HF l Θ) (hD : 1 ≤ d) (h : mH) (a0 : Nat) (a1 : Int32) (a2 : Nat) (a3 : Int32) : mMs l Θ d M_R_copies [.ref a0, .int a1, .ref a2, .int a3] h (tR vU) (P_R_copies Θ N h a0 a1 a2 a3) := by
  refine mMs.of hfl (by decide +kernel) rfl (Nat.le_of_ble_eq_true rfl) (loc := [some (.ref a0), some (.int a1), some (.ref a2), some (.int a3), none]) rfl ?_
  unfold P_R_copies
  refine y_iconst (v := (J 0)) d_R_copies_0 rfl ?_
  refine y_istore (loc2 := [some (.ref a0), some (.int a1), some (.ref a2), some (.int a3), some (.int (J 0))]) d_R_copies_1 (Nat.le_of_ble_eq_true rfl) rfl rfl ?_
  refine S_R_copies_3 hfl hD (fun h3 => ?_) N h (J 0)
  exact y_retU d_R_copies_29 rfl
noncomputable def P_R_holds (Θ : mW) (N : Nat) (h : mH) (a0 : Nat) (a1 : Int32) (a2 : Int32) (a3 : Int32) (a4 : Int32) : Option (Int32 × mH) :=
  (jn (fun (h2 : mH) (s3 : Int32) => (bo (wF Θ h2 9 a0 13 (.int s3)) (fun h4 => (bo (rI Θ h4 9 a0 13) (fun v5 => (if v5 = 0 then (some ((J 1), h4)) else (some ((J 0), h4)))))))) (fun j1 => (if a1 = 0 then (j1 h (J 1)) else (if a2 = 0 then (j1 h (J 2)) else (if a3 = 0 then (j1 h (J 3)) else (if a4 = 0 then (j1 h (J 4)) else (j1 h (J 0))))))))
theorem S_R_holds (hfl : HF l Θ) (hD : 1 ≤ d) (h : mH) (a0 : Nat) (a1 : Int32) (a2 : Int32) (a3 : Int32) (a4 : Int32) : mMs l Θ d M_R_holds [.ref a0, .int a1, .int a2, .int a3, .int a4] h (tR vI) (P_R_holds Θ N h a0 a1 a2 a3 a4) := by
  refine mMs.of hfl (by decide +kernel) rfl (Nat.le_of_ble_eq_true rfl) (loc := [some (.ref a0), some (.int a1), some (.int a2), some (.int a3), some (.int a4)]) rfl ?_
  unfold P_R_holds
  refine y_aload_n d_R_holds_0 rfl ?_
  refine y_iload_n d_R_holds_1 rfl ?_
  refine y_jn (C := fun (j9 : mH → Int32 → Option (Int32 × mH)) => ∀ (h2 : mH) (s3 : Int32), mY l Θ d M_R_holds 35 [some (.ref a0), none, none, none, none] [.int s3, .ref a0] h2 (tR vI) (j9 h2 s3)) (fun h2 s3 => ?_) (fun j1 Hj1 => ?_)
  · refine y_put d_R_holds_35 p_R_42 rfl rfl (fun h4 => ?_)
    refine y_aload_n d_R_holds_38 rfl ?_
    refine y_getI d_R_holds_39 f_R_42 (fun v5 => ?_)
    refine y_if_ne (tgt := 49) d_R_holds_42 (by decide) ?_ ?_
    · refine y_iconst (v := (J 0)) d_R_holds_49 rfl ?_
      exact y_retI d_R_holds_50 rfl (by decide +kernel)
    · refine y_iconst (v := (J 1)) d_R_holds_45 rfl ?_
      refine y_goto (tgt := 50) d_R_holds_46 (by decide) ?_
      exact y_retI d_R_holds_50 rfl (by decide +kernel)
  · refine y_if_ne (tgt := 9) d_R_holds_2 (by decide) ?_ ?_
    · refine y_iload_n d_R_holds_9 rfl ?_
      refine y_if_ne (tgt := 17) d_R_holds_10 (by decide) ?_ ?_
      · refine y_iload_n d_R_holds_17 rfl ?_
        refine y_if_ne (tgt := 25) d_R_holds_18 (by decide) ?_ ?_
        · refine y_iload d_R_holds_25 rfl ?_
          refine y_if_ne (tgt := 34) d_R_holds_27 (by decide) ?_ ?_
          · refine y_iconst (v := (J 0)) d_R_holds_34 rfl ?_
            exact y_wk (loc2 := [some (.ref a0), none, none, none, none]) ⟨rfl, trivial⟩ (Hj1 h (J 0))
          · refine y_iconst (v := (J 4)) d_R_holds_30 rfl ?_
            refine y_goto (tgt := 35) d_R_holds_31 (by decide) ?_
            exact y_wk (loc2 := [some (.ref a0), none, none, none, none]) ⟨rfl, trivial⟩ (Hj1 h (J 4))
        · refine y_iconst (v := (J 3)) d_R_holds_21 rfl ?_
          refine y_goto (tgt := 35) d_R_holds_22 (by decide) ?_
          exact y_wk (loc2 := [some (.ref a0), none, none, none, none]) ⟨rfl, trivial⟩ (Hj1 h (J 3))
      · refine y_iconst (v := (J 2)) d_R_holds_13 rfl ?_
        refine y_goto (tgt := 35) d_R_holds_14 (by decide) ?_
        exact y_wk (loc2 := [some (.ref a0), none, none, none, none]) ⟨rfl, trivial⟩ (Hj1 h (J 2))
    · refine y_iconst (v := (J 1)) d_R_holds_5 rfl ?_
      refine y_goto (tgt := 35) d_R_holds_6 (by decide) ?_
      exact y_wk (loc2 := [some (.ref a0), none, none, none, none]) ⟨rfl, trivial⟩ (Hj1 h (J 1))
noncomputable def P_R_goes (Θ : mW) (N : Nat) (h : mH) (a0 : Nat) (a1 : Int32) : Option (Int32 × mH) :=
  (gO Θ h 9 a0 (bc (P_R_holds Θ N h a0 a1 (J 1) (J 1) (J 1)) (fun v2 h1 => (if v2 = J 0 ∨ v2 = J 1 then some (v2, h1) else none))))
theorem S_R_goes (hfl : HF l Θ) (hD : 2 ≤ d) (h : mH) (a0 : Nat) (a1 : Int32) : mMs l Θ d M_R_goes [.ref a0, .int a1] h (tR vI) (P_R_goes Θ N h a0 a1) := by
  refine mMs.of hfl (by decide +kernel) rfl (Nat.le_of_ble_eq_true rfl) (loc := [some (.ref a0), some (.int a1)]) rfl ?_
  unfold P_R_goes
  refine y_aload_n d_R_goes_0 rfl ?_
  refine y_iload_n d_R_goes_1 rfl ?_
  refine y_iconst (v := (J 1)) d_R_goes_2 rfl ?_
  refine y_iconst (v := (J 1)) d_R_goes_3 rfl ?_
  refine y_iconst (v := (J 1)) d_R_goes_4 rfl ?_
  refine y_gO (fun fs1 g1 => y_cI (c_vi (rest := []) d_R_goes_5 k_R_holds s_R_45 (Or.inl ⟨_, _, _, g1, rfl, rfl⟩) rfl rfl (Nat.le_of_ble_eq_true rfl) (Nat.le_trans (Nat.le_of_ble_eq_true rfl : 1 + 1 ≤ 2) hD) (S_R_holds hfl (Nat.le_refl _) h a0 a1 (J 1) (J 1) (J 1))) (fun v2 h1 => ?_))
  exact y_gZ (fun hn _ => y_retI d_R_goes_8 rfl hn)
noncomputable def P_R_undo (Θ : mW) (N : Nat) (h : mH) (a0 : Nat) : Option (Int32 × mH) :=
  (bo (rI Θ h 9 a0 5) (fun v1 => (jn (fun (h3 : mH) (s4 : Int32) => (gO Θ h3 9 a0 (bc (P_R_goes Θ N h3 a0 s4) (fun v6 h5 => (if v6 = 0 then (some ((J 0), h5)) else (bo (rI Θ h5 9 a0 5) (fun v7 => (bo (wF Θ h5 9 a0 5 (.int (v7 - (J 1)))) (fun h8 => (bo (rA Θ h8 9 a0 3) (fun v9 => (bo (rI Θ h8 9 a0 5) (fun v10 => (bo (rA Θ h8 9 a0 0) (fun v11 => (bc (P_R_copies Θ N h8 v9 (v10 * (J 140)) v11 (J 0)) (fun v13 h12 => (bo (rI Θ h12 9 a0 5) (fun v14 => (some (v14, h12))))))))))))))))))))) (fun j2 => (if v1 ≤ 0 then (j2 h (J 0)) else (j2 h (J 1)))))))
theorem S_R_undo (hfl : HF l Θ) (hD : 3 ≤ d) (h : mH) (a0 : Nat) : mMs l Θ d M_R_undo [.ref a0] h (tR vI) (P_R_undo Θ N h a0) := by
  refine mMs.of hfl (by decide +kernel) rfl (Nat.le_of_ble_eq_true rfl) (loc := [some (.ref a0)]) rfl ?_
  unfold P_R_undo
  refine y_aload_n d_R_undo_0 rfl ?_
  refine y_aload_n d_R_undo_1 rfl ?_
  refine y_getI d_R_undo_2 f_R_53 (fun v1 => ?_)
  refine y_jn (C := fun (j9 : mH → Int32 → Option (Int32 × mH)) => ∀ (h3 : mH) (s4 : Int32), mY l Θ d M_R_undo 13 [some (.ref a0)] [.int s4, .ref a0] h3 (tR vI) (j9 h3 s4)) (fun h3 s4 => ?_) (fun j2 Hj2 => ?_)
  · refine y_gO (fun fs1 g1 => y_cI (c_vi (rest := []) d_R_undo_13 k_R_goes s_R_59 (Or.inl ⟨_, _, _, g1, rfl, rfl⟩) rfl rfl (Nat.le_of_ble_eq_true rfl) (Nat.le_trans (Nat.le_of_ble_eq_true rfl : 2 + 1 ≤ 3) hD) (S_R_goes hfl (Nat.le_refl _) h3 a0 s4)) (fun v6 h5 => ?_))
    refine y_if_ne (tgt := 21) d_R_undo_16 (by decide) ?_ ?_
    · refine y_aload_n d_R_undo_21 rfl ?_
      refine y_dup d_R_undo_22 rfl ?_
      refine y_getI d_R_undo_23 f_R_53 (fun v7 => ?_)
      refine y_iconst (v := (J 1)) d_R_undo_26 rfl ?_
      refine y_isub (v := (v7 - (J 1))) d_R_undo_27 rfl ?_
      refine y_put d_R_undo_28 p_R_53 rfl rfl (fun h8 => ?_)
      refine y_aload_n d_R_undo_31 rfl ?_
      refine y_getA d_R_undo_32 f_R_19 (fun v9 => ?_)
      refine y_aload_n d_R_undo_35 rfl ?_
      refine y_getI d_R_undo_36 f_R_53 (fun v10 => ?_)
      refine y_sipush (v := (J 140)) d_R_undo_39 (by decide +kernel) ?_
      refine y_imul (v := (v10 * (J 140))) d_R_undo_42 rfl ?_
      refine y_aload_n d_R_undo_43 rfl ?_
      refine y_getA d_R_undo_44 f_R_9 (fun v11 => ?_)
      refine y_iconst (v := (J 0)) d_R_undo_47 rfl ?_
      refine y_cU (c_st (rest := []) d_R_undo_48 k_R_copies s_R_49 rfl rfl (Nat.le_of_ble_eq_true rfl) (Nat.le_trans (Nat.le_of_ble_eq_true rfl : 1 + 1 ≤ 3) hD) (S_R_copies hfl (Nat.le_refl _) h8 v9 (v10 * (J 140)) v11 (J 0))) (fun v13 h12 => ?_)
      refine y_aload_n d_R_undo_51 rfl ?_
      refine y_getI d_R_undo_52 f_R_53 (fun v14 => ?_)
      exact y_retI d_R_undo_55 rfl rfl
    · refine y_iconst (v := (J 0)) d_R_undo_19 rfl ?_
      exact y_retI d_R_undo_20 rfl rfl
  · refine y_if_le (tgt := 12) d_R_undo_5 (by decide) ?_ ?_
    · refine y_iconst (v := (J 0)) d_R_undo_12 rfl ?_
      exact Hj2 h (J 0)
    · refine y_iconst (v := (J 1)) d_R_undo_8 rfl ?_
      refine y_goto (tgt := 13) d_R_undo_9 (by decide) ?_
      exact Hj2 h (J 1)
noncomputable def P_R_save (Θ : mW) (N : Nat) (h : mH) (a0 : Nat) : Option (Int32 × mH) :=
  (bo (wF Θ h 9 a0 13 (.int (J 0))) (fun h1 => (bo (rA Θ h1 9 a0 0) (fun v2 => (bo (rA Θ h1 9 a0 2) (fun v3 => (bc (P_R_copies Θ N h1 v2 (J 0) v3 (J 0)) (fun v5 h4 => (bo (wF Θ h4 9 a0 4 (.int (J 1))) (fun h6 => (bo (rA Θ h6 9 a0 0) (fun v7 => (bo (aR Θ h6 0 v7 (J 4)) (fun v8 => (some (v8, h6))))))))))))))))
theorem S_R_save (hfl : HF l Θ) (hD : 2 ≤ d) (h : mH) (a0 : Nat) : mMs l Θ d M_R_save [.ref a0] h (tR vI) (P_R_save Θ N h a0) := by
  refine mMs.of hfl (by decide +kernel) rfl (Nat.le_of_ble_eq_true rfl) (loc := [some (.ref a0)]) rfl ?_
  unfold P_R_save
  refine y_aload_n d_R_save_0 rfl ?_
  refine y_iconst (v := (J 0)) d_R_save_1 rfl ?_
  refine y_put d_R_save_2 p_R_42 rfl rfl (fun h1 => ?_)
  refine y_aload_n d_R_save_5 rfl ?_
  refine y_getA d_R_save_6 f_R_9 (fun v2 => ?_)
  refine y_iconst (v := (J 0)) d_R_save_9 rfl ?_
  refine y_aload_n d_R_save_10 rfl ?_
  refine y_getA d_R_save_11 f_R_16 (fun v3 => ?_)
  refine y_iconst (v := (J 0)) d_R_save_14 rfl ?_
  refine y_cU (c_st (rest := []) d_R_save_15 k_R_copies s_R_49 rfl rfl (Nat.le_of_ble_eq_true rfl) (Nat.le_trans (Nat.le_of_ble_eq_true rfl : 1 + 1 ≤ 2) hD) (S_R_copies hfl (Nat.le_refl _) h1 v2 (J 0) v3 (J 0))) (fun v5 h4 => ?_)
  refine y_aload_n d_R_save_18 rfl ?_
  refine y_iconst (v := (J 1)) d_R_save_19 rfl ?_
  refine y_put d_R_save_20 p_R_63 rfl rfl (fun h6 => ?_)
  refine y_aload_n d_R_save_23 rfl ?_
  refine y_getA d_R_save_24 f_R_9 (fun v7 => ?_)
  refine y_iconst (v := (J 4)) d_R_save_27 rfl ?_
  refine y_iald d_R_save_28 (fun v8 => ?_)
  exact y_retI d_R_save_29 rfl rfl
noncomputable def P_R_restore (Θ : mW) (N : Nat) (h : mH) (a0 : Nat) : Option (Int32 × mH) :=
  (bo (rI Θ h 9 a0 4) (fun v1 => (gO Θ h 9 a0 (bc (P_R_goes Θ N h a0 v1) (fun v3 h2 => (if v3 = 0 then (some ((J 0), h2)) else (bo (rA Θ h2 9 a0 2) (fun v4 => (bo (rA Θ h2 9 a0 0) (fun v5 => (bc (P_R_copies Θ N h2 v4 (J 0) v5 (J 0)) (fun v7 h6 => (bo (wF Θ h6 9 a0 5 (.int (J 0))) (fun h8 => (bo (rA Θ h8 9 a0 0) (fun v9 => (bo (aR Θ h8 0 v9 (J 4)) (fun v10 => (some (v10, h8))))))))))))))))))))
theorem S_R_restore (hfl : HF l Θ) (hD : 3 ≤ d) (h : mH) (a0 : Nat) : mMs l Θ d M_R_restore [.ref a0] h (tR vI) (P_R_restore Θ N h a0) := by
  refine mMs.of hfl (by decide +kernel) rfl (Nat.le_of_ble_eq_true rfl) (loc := [some (.ref a0)]) rfl ?_
  unfold P_R_restore
  refine y_aload_n d_R_restore_0 rfl ?_
  refine y_aload_n d_R_restore_1 rfl ?_
  refine y_getI d_R_restore_2 f_R_63 (fun v1 => ?_)
  refine y_gO (fun fs1 g1 => y_cI (c_vi (rest := []) d_R_restore_5 k_R_goes s_R_59 (Or.inl ⟨_, _, _, g1, rfl, rfl⟩) rfl rfl (Nat.le_of_ble_eq_true rfl) (Nat.le_trans (Nat.le_of_ble_eq_true rfl : 2 + 1 ≤ 3) hD) (S_R_goes hfl (Nat.le_refl _) h a0 v1)) (fun v3 h2 => ?_))
  refine y_if_ne (tgt := 13) d_R_restore_8 (by decide) ?_ ?_
  · refine y_aload_n d_R_restore_13 rfl ?_
    refine y_getA d_R_restore_14 f_R_16 (fun v4 => ?_)
    refine y_iconst (v := (J 0)) d_R_restore_17 rfl ?_
    refine y_aload_n d_R_restore_18 rfl ?_
    refine y_getA d_R_restore_19 f_R_9 (fun v5 => ?_)
    refine y_iconst (v := (J 0)) d_R_restore_22 rfl ?_
    refine y_cU (c_st (rest := []) d_R_restore_23 k_R_copies s_R_49 rfl rfl (Nat.le_of_ble_eq_true rfl) (Nat.le_trans (Nat.le_of_ble_eq_true rfl : 1 + 1 ≤ 3) hD) (S_R_copies hfl (Nat.le_refl _) h2 v4 (J 0) v5 (J 0))) (fun v7 h6 => ?_)
    refine y_aload_n d_R_restore_26 rfl ?_
    refine y_iconst (v := (J 0)) d_R_restore_27 rfl ?_
    refine y_put d_R_restore_28 p_R_53 rfl rfl (fun h8 => ?_)
    refine y_aload_n d_R_restore_31 rfl ?_
    refine y_getA d_R_restore_32 f_R_9 (fun v9 => ?_)
    refine y_iconst (v := (J 4)) d_R_restore_35 rfl ?_
    refine y_iald d_R_restore_36 (fun v10 => ?_)
    exact y_retI d_R_restore_37 rfl rfl
  · refine y_iconst (v := (J 0)) d_R_restore_11 rfl ?_
    exact y_retI d_R_restore_12 rfl rfl
noncomputable def P_R_isIn (Θ : mW) (N : Nat) (h : mH) (a0 : Int32) (a1 : Int32) (a2 : Int32) : Option (Int32 × mH) :=
  (if a0 < a1 then (some ((J 0), h)) else (if a2 < a0 then (some ((J 0), h)) else (some ((J 1), h))))
theorem S_R_isIn (hfl : HF l Θ) (hD : 1 ≤ d) (h : mH) (a0 : Int32) (a1 : Int32) (a2 : Int32) : mMs l Θ d M_R_isIn [.int a0, .int a1, .int a2] h (tR vI) (P_R_isIn Θ N h a0 a1 a2) := by
  refine mMs.of hfl (by decide +kernel) rfl (Nat.le_of_ble_eq_true rfl) (loc := [some (.int a0), some (.int a1), some (.int a2)]) rfl ?_
  unfold P_R_isIn
  refine y_iload_n d_R_isIn_0 rfl ?_
  refine y_iload_n d_R_isIn_1 rfl ?_
  refine y_icmp_lt (tgt := 14) d_R_isIn_2 (by decide) ?_ ?_
  · refine y_iconst (v := (J 0)) d_R_isIn_14 rfl ?_
    exact y_retI d_R_isIn_15 rfl (by decide +kernel)
  · refine y_iload_n d_R_isIn_5 rfl ?_
    refine y_iload_n d_R_isIn_6 rfl ?_
    refine y_icmp_gt (tgt := 14) d_R_isIn_7 (by decide) ?_ ?_
    · refine y_iconst (v := (J 0)) d_R_isIn_14 rfl ?_
      exact y_retI d_R_isIn_15 rfl (by decide +kernel)
    · refine y_iconst (v := (J 1)) d_R_isIn_10 rfl ?_
      refine y_goto (tgt := 15) d_R_isIn_11 (by decide) ?_
      exact y_retI d_R_isIn_15 rfl (by decide +kernel)
noncomputable def P_R_place (Θ : mW) (N : Nat) (h : mH) (a0 : Int32) (a1 : Int32) : Option (Int32 × mH) :=
  (some ((((J 8) + ((J 9) * (mxI (J 0) a0))) + a1), h))
theorem S_R_place (hfl : HF l Θ) (hD : 1 ≤ d) (h : mH) (a0 : Int32) (a1 : Int32) : mMs l Θ d M_R_place [.int a0, .int a1] h (tR vI) (P_R_place Θ N h a0 a1) := by
  refine mMs.of hfl (by decide +kernel) rfl (Nat.le_of_ble_eq_true rfl) (loc := [some (.int a0), some (.int a1)]) rfl ?_
  unfold P_R_place
  refine y_bipush (v := (J 8)) d_R_place_0 (by decide +kernel) ?_
  refine y_bipush (v := (J 9)) d_R_place_2 (by decide +kernel) ?_
  refine y_iconst (v := (J 0)) d_R_place_4 rfl ?_
  refine y_iload_n d_R_place_5 rfl ?_
  refine y_mmax d_R_place_6 s_R_71.1 s_R_71.2 k_MA_max.2.2.2.2.2 (mG (2, 152) (by decide +kernel)) (Nat.le_of_ble_eq_true rfl) (Nat.le_trans (Nat.le_of_ble_eq_true rfl) hD) ?_
  refine y_imul (v := ((J 9) * (mxI (J 0) a0))) d_R_place_9 rfl ?_
  refine y_iadd (v := ((J 8) + ((J 9) * (mxI (J 0) a0)))) d_R_place_10 rfl ?_
  refine y_iload_n d_R_place_11 rfl ?_
  refine y_iadd (v := (((J 8) + ((J 9) * (mxI (J 0) a0))) + a1)) d_R_place_12 rfl ?_
  exact y_retI d_R_place_13 rfl rfl
noncomputable def B_R_adds_77 (Θ : mW) (N : Nat) (K103 : mH → Option (Int32 × mH)) (f0_ : Nat) (f1_ : Int32) (f2_ : Int32) (f3_ : Int32) (f5_ : Int32) (rc : mH → Int32 → Option (Int32 × mH)) (h : mH) (v6_ : Int32) : Option (Int32 × mH) :=
  (if (J 9) ≤ v6_ then (K103 h) else (bo (rA Θ h 9 f0_ 0) (fun v15 => (bc (P_R_place Θ N h f5_ v6_) (fun v17 h16 => (bo (aW Θ h16 0 v15 v17 (J 0)) (fun h18 => (rc h18 (v6_ + (J 1))))))))))
noncomputable def P_R_adds_77 (Θ : mW) (N : Nat) (K103 : mH → Option (Int32 × mH)) (f0_ : Nat) (f1_ : Int32) (f2_ : Int32) (f3_ : Int32) (f5_ : Int32) : Nat → mH → Int32 → Option (Int32 × mH) :=
  lp (fun _ _ => none) (B_R_adds_77 Θ N K103 f0_ f1_ f2_ f3_ f5_)
noncomputable def P_R_adds (Θ : mW) (N : Nat) (h : mH) (a0 : Nat) (a1 : Int32) (a2 : Int32) (a3 : Int32) : Option (Int32 × mH) :=
  (bc (P_R_isIn Θ N h a1 (J 5) (J 30)) (fun v2 h1 => (jn (fun (h4 : mH) (s5 : Int32) => (bo (rA Θ h4 9 a0 0) (fun v6 => (bo (aR Θ h4 0 v6 (J 4)) (fun v7 => (jn (fun (h9 : mH) (s10 : Int32) => (gO Θ h9 9 a0 (bc (P_R_holds Θ N h9 a0 s5 s10 (J 1) (J 1)) (fun v12 h11 => (if v12 = 0 then (some ((J 0), h11)) else (bo (rA Θ h11 9 a0 0) (fun v13 => (bo (aR Θ h11 0 v13 (J 4)) (fun v14 => (P_R_adds_77 Θ N (fun h19 => (bo (rA Θ h19 9 a0 0) (fun v20 => (bc (P_R_place Θ N h19 v14 (J 0)) (fun v22 h21 => (bo (rA Θ h21 9 a0 0) (fun v23 => (bo (aR Θ h21 0 v23 (J 5)) (fun v24 => (bo (aW Θ h21 0 v20 v22 v24) (fun h25 => (bo (rA Θ h25 9 a0 0) (fun v26 => (bc (P_R_place Θ N h25 v14 (J 1)) (fun v28 h27 => (bo (aW Θ h27 0 v26 v28 a1) (fun h29 => (bo (rA Θ h29 9 a0 0) (fun v30 => (bc (P_R_place Θ N h29 v14 (J 2)) (fun v32 h31 => (bo (aW Θ h31 0 v30 v32 a2) (fun h33 => (bo (rA Θ h33 9 a0 0) (fun v34 => (bc (P_R_place Θ N h33 v14 (J 3)) (fun v36 h35 => (bo (aW Θ h35 0 v34 v36 a3) (fun h37 => (bo (rA Θ h37 9 a0 0) (fun v38 => (bc (P_R_place Θ N h37 v14 (J 4)) (fun v40 h39 => (bo (aW Θ h39 0 v38 v40 (J (-1))) (fun h41 => (bo (rA Θ h41 9 a0 0) (fun v42 => (bo (aR Θ h41 0 v42 (J 4)) (fun v43 => (bo (aW Θ h41 0 v42 (J 4) (v43 + (J 1))) (fun h44 => (bo (rA Θ h44 9 a0 0) (fun v45 => (bo (aR Θ h44 0 v45 (J 5)) (fun v46 => (bo (aW Θ h44 0 v45 (J 5) (v46 + (J 1))) (fun h47 => (bo (rA Θ h47 9 a0 0) (fun v48 => (bo (aR Θ h47 0 v48 (J 5)) (fun v49 => (some ((v49 - (J 1)), h47))))))))))))))))))))))))))))))))))))))))))))))))))))) a0 a1 a2 a3 v14 N h11 (J 0))))))))))) (fun j8 => (if (J 8) ≤ v7 then (j8 h4 (J 0)) else (j8 h4 (J 1)))))))))) (fun j3 => (jn (fun (h51 : mH) => (j3 h51 (J 0))) (fun j50 => (if v2 = 0 then (j50 h1) else (bc (P_R_isIn Θ N h1 a2 (J 5) (J 80)) (fun v53 h52 => (if v53 = 0 then (j50 h52) else (bc (P_R_isIn Θ N h52 a3 (J 0) (J 99)) (fun v55 h54 => (if v55 = 0 then (j50 h54) else (j3 h54 (J 1)))))))))))))))
theorem SB_R_adds_77 (hfl : HF l Θ) (hD : 2 ≤ d) {K103 : mH → Option (Int32 × mH)} {f0_ : Nat} {f1_ : Int32} {f2_ : Int32} {f3_ : Int32} {f5_ : Int32}  (hK103 : ∀ (h : mH), mY l Θ d M_R_adds 103 [some (.ref f0_), some (.int f1_), some (.int f2_), some (.int f3_), none, some (.int f5_), none] [] h (tR vI) (K103 h)) (rc : mH → Int32 → Option (Int32 × mH)) (ih : ∀ (h : mH) (v6_ : Int32), mY l Θ d M_R_adds 77 [some (.ref f0_), some (.int f1_), some (.int f2_), some (.int f3_), none, some (.int f5_), some (.int v6_)] [] h (tR vI) (rc h v6_)) : ∀ (h : mH) (v6_ : Int32), mY l Θ d M_R_adds 77 [some (.ref f0_), some (.int f1_), some (.int f2_), some (.int f3_), none, some (.int f5_), some (.int v6_)] [] h (tR vI) (B_R_adds_77 Θ N K103 f0_ f1_ f2_ f3_ f5_ rc h v6_) := by
  intro h v6_
  unfold B_R_adds_77
  refine y_iload d_R_adds_77 rfl ?_
  refine y_bipush (v := (J 9)) d_R_adds_79 (by decide +kernel) ?_
  refine y_icmp_ge (tgt := 103) d_R_adds_81 (by decide) ?_ ?_
  · exact y_wk (loc2 := [some (.ref f0_), some (.int f1_), some (.int f2_), some (.int f3_), none, some (.int f5_), none]) ⟨rfl, ⟨rfl, ⟨rfl, ⟨rfl, ⟨rfl, trivial⟩⟩⟩⟩⟩ (hK103 h)
  · refine y_aload_n d_R_adds_84 rfl ?_
    refine y_getA d_R_adds_85 f_R_9 (fun v15 => ?_)
    refine y_iload d_R_adds_88 rfl ?_
    refine y_iload d_R_adds_90 rfl ?_
    refine y_cI (c_st (rest := [.ref v15]) d_R_adds_92 k_R_place s_R_76 rfl rfl (Nat.le_of_ble_eq_true rfl) (Nat.le_trans (Nat.le_of_ble_eq_true rfl : 1 + 1 ≤ 2) hD) (S_R_place hfl (Nat.le_refl _) h f5_ v6_)) (fun v17 h16 => ?_)
    refine y_iconst (v := (J 0)) d_R_adds_95 rfl ?_
    refine y_iast d_R_adds_96 (fun h18 => ?_)
    refine y_iinc (v := (v6_ + (J 1))) (loc2 := [some (.ref f0_), some (.int f1_), some (.int f2_), some (.int f3_), none, some (.int f5_), some (.int (v6_ + (J 1)))]) d_R_adds_97 rfl rfl (Nat.le_of_ble_eq_true rfl) rfl rfl ?_
    refine y_goto (tgt := 77) d_R_adds_100 (by decide) ?_
    exact ih h18 (v6_ + (J 1))
theorem S_R_adds_77 (hfl : HF l Θ) (hD : 2 ≤ d) {K103 : mH → Option (Int32 × mH)} {f0_ : Nat} {f1_ : Int32} {f2_ : Int32} {f3_ : Int32} {f5_ : Int32}  (hK103 : ∀ (h : mH), mY l Θ d M_R_adds 103 [some (.ref f0_), some (.int f1_), some (.int f2_), some (.int f3_), none, some (.int f5_), none] [] h (tR vI) (K103 h)) : ∀ (n : Nat) (h : mH) (v6_ : Int32), mY l Θ d M_R_adds 77 [some (.ref f0_), some (.int f1_), some (.int f2_), some (.int f3_), none, some (.int f5_), some (.int v6_)] [] h (tR vI) (P_R_adds_77 Θ N K103 f0_ f1_ f2_ f3_ f5_ n h v6_) :=
  fun n => lp_all (C := fun (rc : mH → Int32 → Option (Int32 × mH)) => ∀ (h : mH) (v6_ : Int32), mY l Θ d M_R_adds 77 [some (.ref f0_), some (.int f1_), some (.int f2_), some (.int f3_), none, some (.int f5_), some (.int v6_)] [] h (tR vI) (rc h v6_)) (fun _ _ => y_none) (fun rc ih => SB_R_adds_77 hfl hD hK103 rc ih) n
theorem S_R_adds (hfl : HF l Θ) (hD : 2 ≤ d) (h : mH) (a0 : Nat) (a1 : Int32) (a2 : Int32) (a3 : Int32) : mMs l Θ d M_R_adds [.ref a0, .int a1, .int a2, .int a3] h (tR vI) (P_R_adds Θ N h a0 a1 a2 a3) := by
  refine mMs.of hfl (by decide +kernel) rfl (Nat.le_of_ble_eq_true rfl) (loc := [some (.ref a0), some (.int a1), some (.int a2), some (.int a3), none, none, none]) rfl ?_
  unfold P_R_adds
  refine y_iload_n d_R_adds_0 rfl ?_
  refine y_iconst (v := (J 5)) d_R_adds_1 rfl ?_
  refine y_bipush (v := (J 30)) d_R_adds_2 (by decide +kernel) ?_
  refine y_cI (c_st (rest := []) d_R_adds_4 k_R_isIn s_R_83 rfl rfl (Nat.le_of_ble_eq_true rfl) (Nat.le_trans (Nat.le_of_ble_eq_true rfl : 1 + 1 ≤ 2) hD) (S_R_isIn hfl (Nat.le_refl _) h a1 (J 5) (J 30))) (fun v2 h1 => ?_)
  refine y_jn (C := fun (j9 : mH → Int32 → Option (Int32 × mH)) => ∀ (h4 : mH) (s5 : Int32), mY l Θ d M_R_adds 35 [some (.ref a0), some (.int a1), some (.int a2), some (.int a3), none, none, none] [.int s5] h4 (tR vI) (j9 h4 s5)) (fun h4 s5 => ?_) (fun j3 Hj3 => ?_)
  · refine y_istore (loc2 := [some (.ref a0), some (.int a1), some (.int a2), some (.int a3), some (.int s5), none, none]) d_R_adds_35 (Nat.le_of_ble_eq_true rfl) rfl rfl ?_
    refine y_aload_n d_R_adds_37 rfl ?_
    refine y_iload d_R_adds_38 rfl ?_
    refine y_aload_n d_R_adds_40 rfl ?_
    refine y_getA d_R_adds_41 f_R_9 (fun v6 => ?_)
    refine y_iconst (v := (J 4)) d_R_adds_44 rfl ?_
    refine y_iald d_R_adds_45 (fun v7 => ?_)
    refine y_bipush (v := (J 8)) d_R_adds_46 (by decide +kernel) ?_
    refine y_jn (C := fun (j9 : mH → Int32 → Option (Int32 × mH)) => ∀ (h9 : mH) (s10 : Int32), mY l Θ d M_R_adds 56 [some (.ref a0), some (.int a1), some (.int a2), some (.int a3), none, none, none] [.int s10, .int s5, .ref a0] h9 (tR vI) (j9 h9 s10)) (fun h9 s10 => ?_) (fun j8 Hj8 => ?_)
    · refine y_iconst (v := (J 1)) d_R_adds_56 rfl ?_
      refine y_iconst (v := (J 1)) d_R_adds_57 rfl ?_
      refine y_gO (fun fs1 g1 => y_cI (c_vi (rest := []) d_R_adds_58 k_R_holds s_R_45 (Or.inl ⟨_, _, _, g1, rfl, rfl⟩) rfl rfl (Nat.le_of_ble_eq_true rfl) (Nat.le_trans (Nat.le_of_ble_eq_true rfl : 1 + 1 ≤ 2) hD) (S_R_holds hfl (Nat.le_refl _) h9 a0 s5 s10 (J 1) (J 1))) (fun v12 h11 => ?_))
      refine y_if_ne (tgt := 66) d_R_adds_61 (by decide) ?_ ?_
      · refine y_aload_n d_R_adds_66 rfl ?_
        refine y_getA d_R_adds_67 f_R_9 (fun v13 => ?_)
        refine y_iconst (v := (J 4)) d_R_adds_70 rfl ?_
        refine y_iald d_R_adds_71 (fun v14 => ?_)
        refine y_istore (loc2 := [some (.ref a0), some (.int a1), some (.int a2), some (.int a3), none, some (.int v14), none]) d_R_adds_72 (Nat.le_of_ble_eq_true rfl) rfl rfl ?_
        refine y_iconst (v := (J 0)) d_R_adds_74 rfl ?_
        refine y_istore (loc2 := [some (.ref a0), some (.int a1), some (.int a2), some (.int a3), none, some (.int v14), some (.int (J 0))]) d_R_adds_75 (Nat.le_of_ble_eq_true rfl) rfl rfl ?_
        refine S_R_adds_77 hfl hD (fun h19 => ?_) N h11 (J 0)
        refine y_aload_n d_R_adds_103 rfl ?_
        refine y_getA d_R_adds_104 f_R_9 (fun v20 => ?_)
        refine y_iload d_R_adds_107 rfl ?_
        refine y_iconst (v := (J 0)) d_R_adds_109 rfl ?_
        refine y_cI (c_st (rest := [.ref v20]) d_R_adds_110 k_R_place s_R_76 rfl rfl (Nat.le_of_ble_eq_true rfl) (Nat.le_trans (Nat.le_of_ble_eq_true rfl : 1 + 1 ≤ 2) hD) (S_R_place hfl (Nat.le_refl _) h19 v14 (J 0))) (fun v22 h21 => ?_)
        refine y_aload_n d_R_adds_113 rfl ?_
        refine y_getA d_R_adds_114 f_R_9 (fun v23 => ?_)
        refine y_iconst (v := (J 5)) d_R_adds_117 rfl ?_
        refine y_iald d_R_adds_118 (fun v24 => ?_)
        refine y_iast d_R_adds_119 (fun h25 => ?_)
        refine y_aload_n d_R_adds_120 rfl ?_
        refine y_getA d_R_adds_121 f_R_9 (fun v26 => ?_)
        refine y_iload d_R_adds_124 rfl ?_
        refine y_iconst (v := (J 1)) d_R_adds_126 rfl ?_
        refine y_cI (c_st (rest := [.ref v26]) d_R_adds_127 k_R_place s_R_76 rfl rfl (Nat.le_of_ble_eq_true rfl) (Nat.le_trans (Nat.le_of_ble_eq_true rfl : 1 + 1 ≤ 2) hD) (S_R_place hfl (Nat.le_refl _) h25 v14 (J 1))) (fun v28 h27 => ?_)
        refine y_iload_n d_R_adds_130 rfl ?_
        refine y_iast d_R_adds_131 (fun h29 => ?_)
        refine y_aload_n d_R_adds_132 rfl ?_
        refine y_getA d_R_adds_133 f_R_9 (fun v30 => ?_)
        refine y_iload d_R_adds_136 rfl ?_
        refine y_iconst (v := (J 2)) d_R_adds_138 rfl ?_
        refine y_cI (c_st (rest := [.ref v30]) d_R_adds_139 k_R_place s_R_76 rfl rfl (Nat.le_of_ble_eq_true rfl) (Nat.le_trans (Nat.le_of_ble_eq_true rfl : 1 + 1 ≤ 2) hD) (S_R_place hfl (Nat.le_refl _) h29 v14 (J 2))) (fun v32 h31 => ?_)
        refine y_iload_n d_R_adds_142 rfl ?_
        refine y_iast d_R_adds_143 (fun h33 => ?_)
        refine y_aload_n d_R_adds_144 rfl ?_
        refine y_getA d_R_adds_145 f_R_9 (fun v34 => ?_)
        refine y_iload d_R_adds_148 rfl ?_
        refine y_iconst (v := (J 3)) d_R_adds_150 rfl ?_
        refine y_cI (c_st (rest := [.ref v34]) d_R_adds_151 k_R_place s_R_76 rfl rfl (Nat.le_of_ble_eq_true rfl) (Nat.le_trans (Nat.le_of_ble_eq_true rfl : 1 + 1 ≤ 2) hD) (S_R_place hfl (Nat.le_refl _) h33 v14 (J 3))) (fun v36 h35 => ?_)
        refine y_iload_n d_R_adds_154 rfl ?_
        refine y_iast d_R_adds_155 (fun h37 => ?_)
        refine y_aload_n d_R_adds_156 rfl ?_
        refine y_getA d_R_adds_157 f_R_9 (fun v38 => ?_)
        refine y_iload d_R_adds_160 rfl ?_
        refine y_iconst (v := (J 4)) d_R_adds_162 rfl ?_
        refine y_cI (c_st (rest := [.ref v38]) d_R_adds_163 k_R_place s_R_76 rfl rfl (Nat.le_of_ble_eq_true rfl) (Nat.le_trans (Nat.le_of_ble_eq_true rfl : 1 + 1 ≤ 2) hD) (S_R_place hfl (Nat.le_refl _) h37 v14 (J 4))) (fun v40 h39 => ?_)
        refine y_iconst (v := (J (-1))) d_R_adds_166 rfl ?_
        refine y_iast d_R_adds_167 (fun h41 => ?_)
        refine y_aload_n d_R_adds_168 rfl ?_
        refine y_getA d_R_adds_169 f_R_9 (fun v42 => ?_)
        refine y_iconst (v := (J 4)) d_R_adds_172 rfl ?_
        refine y_dup2 d_R_adds_173 rfl rfl ?_
        refine y_iald d_R_adds_174 (fun v43 => ?_)
        refine y_iconst (v := (J 1)) d_R_adds_175 rfl ?_
        refine y_iadd (v := (v43 + (J 1))) d_R_adds_176 rfl ?_
        refine y_iast d_R_adds_177 (fun h44 => ?_)
        refine y_aload_n d_R_adds_178 rfl ?_
        refine y_getA d_R_adds_179 f_R_9 (fun v45 => ?_)
        refine y_iconst (v := (J 5)) d_R_adds_182 rfl ?_
        refine y_dup2 d_R_adds_183 rfl rfl ?_
        refine y_iald d_R_adds_184 (fun v46 => ?_)
        refine y_iconst (v := (J 1)) d_R_adds_185 rfl ?_
        refine y_iadd (v := (v46 + (J 1))) d_R_adds_186 rfl ?_
        refine y_iast d_R_adds_187 (fun h47 => ?_)
        refine y_aload_n d_R_adds_188 rfl ?_
        refine y_getA d_R_adds_189 f_R_9 (fun v48 => ?_)
        refine y_iconst (v := (J 5)) d_R_adds_192 rfl ?_
        refine y_iald d_R_adds_193 (fun v49 => ?_)
        refine y_iconst (v := (J 1)) d_R_adds_194 rfl ?_
        refine y_isub (v := (v49 - (J 1))) d_R_adds_195 rfl ?_
        exact y_retI d_R_adds_196 rfl rfl
      · refine y_iconst (v := (J 0)) d_R_adds_64 rfl ?_
        exact y_retI d_R_adds_65 rfl rfl
    · refine y_icmp_ge (tgt := 55) d_R_adds_48 (by decide) ?_ ?_
      · refine y_iconst (v := (J 0)) d_R_adds_55 rfl ?_
        exact y_wk (loc2 := [some (.ref a0), some (.int a1), some (.int a2), some (.int a3), none, none, none]) ⟨rfl, ⟨rfl, ⟨rfl, ⟨rfl, trivial⟩⟩⟩⟩ (Hj8 h4 (J 0))
      · refine y_iconst (v := (J 1)) d_R_adds_51 rfl ?_
        refine y_goto (tgt := 56) d_R_adds_52 (by decide) ?_
        exact y_wk (loc2 := [some (.ref a0), some (.int a1), some (.int a2), some (.int a3), none, none, none]) ⟨rfl, ⟨rfl, ⟨rfl, ⟨rfl, trivial⟩⟩⟩⟩ (Hj8 h4 (J 1))
  · refine y_jn (C := fun (j9 : mH → Option (Int32 × mH)) => ∀ (h51 : mH), mY l Θ d M_R_adds 34 [some (.ref a0), some (.int a1), some (.int a2), some (.int a3), none, none, none] [] h51 (tR vI) (j9 h51)) (fun h51 => ?_) (fun j50 Hj50 => ?_)
    · refine y_iconst (v := (J 0)) d_R_adds_34 rfl ?_
      exact Hj3 h51 (J 0)
    · refine y_if_eq (tgt := 34) d_R_adds_7 (by decide) ?_ ?_
      · exact Hj50 h1
      · refine y_iload_n d_R_adds_10 rfl ?_
        refine y_iconst (v := (J 5)) d_R_adds_11 rfl ?_
        refine y_bipush (v := (J 80)) d_R_adds_12 (by decide +kernel) ?_
        refine y_cI (c_st (rest := []) d_R_adds_14 k_R_isIn s_R_83 rfl rfl (Nat.le_of_ble_eq_true rfl) (Nat.le_trans (Nat.le_of_ble_eq_true rfl : 1 + 1 ≤ 2) hD) (S_R_isIn hfl (Nat.le_refl _) h1 a2 (J 5) (J 80))) (fun v53 h52 => ?_)
        refine y_if_eq (tgt := 34) d_R_adds_17 (by decide) ?_ ?_
        · exact Hj50 h52
        · refine y_iload_n d_R_adds_20 rfl ?_
          refine y_iconst (v := (J 0)) d_R_adds_21 rfl ?_
          refine y_bipush (v := (J 99)) d_R_adds_22 (by decide +kernel) ?_
          refine y_cI (c_st (rest := []) d_R_adds_24 k_R_isIn s_R_83 rfl rfl (Nat.le_of_ble_eq_true rfl) (Nat.le_trans (Nat.le_of_ble_eq_true rfl : 1 + 1 ≤ 2) hD) (S_R_isIn hfl (Nat.le_refl _) h52 a3 (J 0) (J 99))) (fun v55 h54 => ?_)
          refine y_if_eq (tgt := 34) d_R_adds_27 (by decide) ?_ ?_
          · exact Hj50 h54
          · refine y_iconst (v := (J 1)) d_R_adds_30 rfl ?_
            refine y_goto (tgt := 35) d_R_adds_31 (by decide) ?_
            exact Hj3 h54 (J 1)
noncomputable def P_R_begins (Θ : mW) (N : Nat) (h : mH) (a0 : Nat) : Option (Unit × mH) :=
  (bo (rA Θ h 9 a0 0) (fun v1 => (bo (rA Θ h 9 a0 1) (fun v2 => (bc (P_R_copies Θ N h v1 (J 0) v2 (J 0)) (fun v4 h3 => (some ((), h3))))))))
theorem S_R_begins (hfl : HF l Θ) (hD : 2 ≤ d) (h : mH) (a0 : Nat) : mMs l Θ d M_R_begins [.ref a0] h (tR vU) (P_R_begins Θ N h a0) := by
  refine mMs.of hfl (by decide +kernel) rfl (Nat.le_of_ble_eq_true rfl) (loc := [some (.ref a0)]) rfl ?_
  unfold P_R_begins
  refine y_aload_n d_R_begins_0 rfl ?_
  refine y_getA d_R_begins_1 f_R_9 (fun v1 => ?_)
  refine y_iconst (v := (J 0)) d_R_begins_4 rfl ?_
  refine y_aload_n d_R_begins_5 rfl ?_
  refine y_getA d_R_begins_6 f_R_13 (fun v2 => ?_)
  refine y_iconst (v := (J 0)) d_R_begins_9 rfl ?_
  refine y_cU (c_st (rest := []) d_R_begins_10 k_R_copies s_R_49 rfl rfl (Nat.le_of_ble_eq_true rfl) (Nat.le_trans (Nat.le_of_ble_eq_true rfl : 1 + 1 ≤ 2) hD) (S_R_copies hfl (Nat.le_refl _) h v1 (J 0) v2 (J 0))) (fun v4 h3 => ?_)
  exact y_retU d_R_begins_13 rfl
noncomputable def B_R_remembers_11 (Θ : mW) (N : Nat) (K40 : mH → Option (Unit × mH)) (f0_ : Nat) (rc : mH → Int32 → Option (Unit × mH)) (h : mH) (v1_ : Int32) : Option (Unit × mH) :=
  (if (J 980) ≤ v1_ then (K40 h) else (bo (rA Θ h 9 f0_ 3) (fun v11 => (bo (rA Θ h 9 f0_ 3) (fun v12 => (bo (aR Θ h 0 v12 (v1_ + (J 140))) (fun v13 => (bo (aW Θ h 0 v11 v1_ v13) (fun h14 => (rc h14 (v1_ + (J 1))))))))))))
noncomputable def P_R_remembers_11 (Θ : mW) (N : Nat) (K40 : mH → Option (Unit × mH)) (f0_ : Nat) : Nat → mH → Int32 → Option (Unit × mH) :=
  lp (fun _ _ => none) (B_R_remembers_11 Θ N K40 f0_)
noncomputable def P_R_remembers (Θ : mW) (N : Nat) (h : mH) (a0 : Nat) : Option (Unit × mH) :=
  (bo (rI Θ h 9 a0 5) (fun v1 => (jn (fun (h3 : mH) => (bo (rA Θ h3 9 a0 1) (fun v4 => (bo (rA Θ h3 9 a0 3) (fun v5 => (bo (rI Θ h3 9 a0 5) (fun v6 => (bc (P_R_copies Θ N h3 v4 (J 0) v5 (v6 * (J 140))) (fun v8 h7 => (bo (rI Θ h7 9 a0 5) (fun v9 => (bo (wF Θ h7 9 a0 5 (.int (v9 + (J 1)))) (fun h10 => (some ((), h10))))))))))))))) (fun j2 => (if v1 = (J 8) then (P_R_remembers_11 Θ N (fun h15 => (bo (rI Θ h15 9 a0 5) (fun v16 => (bo (wF Θ h15 9 a0 5 (.int (v16 - (J 1)))) (fun h17 => (j2 h17)))))) a0 N h (J 0)) else (j2 h))))))
theorem SB_R_remembers_11 (hfl : HF l Θ) (hD : 2 ≤ d) {K40 : mH → Option (Unit × mH)} {f0_ : Nat}  (hK40 : ∀ (h : mH), mY l Θ d M_R_remembers 40 [some (.ref f0_), none] [] h (tR vU) (K40 h)) (rc : mH → Int32 → Option (Unit × mH)) (ih : ∀ (h : mH) (v1_ : Int32), mY l Θ d M_R_remembers 11 [some (.ref f0_), some (.int v1_)] [] h (tR vU) (rc h v1_)) : ∀ (h : mH) (v1_ : Int32), mY l Θ d M_R_remembers 11 [some (.ref f0_), some (.int v1_)] [] h (tR vU) (B_R_remembers_11 Θ N K40 f0_ rc h v1_) := by
  intro h v1_
  unfold B_R_remembers_11
  refine y_iload_n d_R_remembers_11 rfl ?_
  refine y_sipush (v := (J 980)) d_R_remembers_12 (by decide +kernel) ?_
  refine y_icmp_ge (tgt := 40) d_R_remembers_15 (by decide) ?_ ?_
  · exact y_wk (loc2 := [some (.ref f0_), none]) ⟨rfl, trivial⟩ (hK40 h)
  · refine y_aload_n d_R_remembers_18 rfl ?_
    refine y_getA d_R_remembers_19 f_R_19 (fun v11 => ?_)
    refine y_iload_n d_R_remembers_22 rfl ?_
    refine y_aload_n d_R_remembers_23 rfl ?_
    refine y_getA d_R_remembers_24 f_R_19 (fun v12 => ?_)
    refine y_iload_n d_R_remembers_27 rfl ?_
    refine y_sipush (v := (J 140)) d_R_remembers_28 (by decide +kernel) ?_
    refine y_iadd (v := (v1_ + (J 140))) d_R_remembers_31 rfl ?_
    refine y_iald d_R_remembers_32 (fun v13 => ?_)
    refine y_iast d_R_remembers_33 (fun h14 => ?_)
    refine y_iinc (v := (v1_ + (J 1))) (loc2 := [some (.ref f0_), some (.int (v1_ + (J 1)))]) d_R_remembers_34 rfl rfl (Nat.le_of_ble_eq_true rfl) rfl rfl ?_
    refine y_goto (tgt := 11) d_R_remembers_37 (by decide) ?_
    exact ih h14 (v1_ + (J 1))
theorem S_R_remembers_11 (hfl : HF l Θ) (hD : 2 ≤ d) {K40 : mH → Option (Unit × mH)} {f0_ : Nat}  (hK40 : ∀ (h : mH), mY l Θ d M_R_remembers 40 [some (.ref f0_), none] [] h (tR vU) (K40 h)) : ∀ (n : Nat) (h : mH) (v1_ : Int32), mY l Θ d M_R_remembers 11 [some (.ref f0_), some (.int v1_)] [] h (tR vU) (P_R_remembers_11 Θ N K40 f0_ n h v1_) :=
  fun n => lp_all (C := fun (rc : mH → Int32 → Option (Unit × mH)) => ∀ (h : mH) (v1_ : Int32), mY l Θ d M_R_remembers 11 [some (.ref f0_), some (.int v1_)] [] h (tR vU) (rc h v1_)) (fun _ _ => y_none) (fun rc ih => SB_R_remembers_11 hfl hD hK40 rc ih) n
theorem S_R_remembers (hfl : HF l Θ) (hD : 2 ≤ d) (h : mH) (a0 : Nat) : mMs l Θ d M_R_remembers [.ref a0] h (tR vU) (P_R_remembers Θ N h a0) := by
  refine mMs.of hfl (by decide +kernel) rfl (Nat.le_of_ble_eq_true rfl) (loc := [some (.ref a0), none]) rfl ?_
  unfold P_R_remembers
  refine y_aload_n d_R_remembers_0 rfl ?_
  refine y_getI d_R_remembers_1 f_R_53 (fun v1 => ?_)
  refine y_bipush (v := (J 8)) d_R_remembers_4 (by decide +kernel) ?_
  refine y_jn (C := fun (j9 : mH → Option (Unit × mH)) => ∀ (h3 : mH), mY l Θ d M_R_remembers 50 [some (.ref a0), none] [] h3 (tR vU) (j9 h3)) (fun h3 => ?_) (fun j2 Hj2 => ?_)
  · refine y_aload_n d_R_remembers_50 rfl ?_
    refine y_getA d_R_remembers_51 f_R_13 (fun v4 => ?_)
    refine y_iconst (v := (J 0)) d_R_remembers_54 rfl ?_
    refine y_aload_n d_R_remembers_55 rfl ?_
    refine y_getA d_R_remembers_56 f_R_19 (fun v5 => ?_)
    refine y_aload_n d_R_remembers_59 rfl ?_
    refine y_getI d_R_remembers_60 f_R_53 (fun v6 => ?_)
    refine y_sipush (v := (J 140)) d_R_remembers_63 (by decide +kernel) ?_
    refine y_imul (v := (v6 * (J 140))) d_R_remembers_66 rfl ?_
    refine y_cU (c_st (rest := []) d_R_remembers_67 k_R_copies s_R_49 rfl rfl (Nat.le_of_ble_eq_true rfl) (Nat.le_trans (Nat.le_of_ble_eq_true rfl : 1 + 1 ≤ 2) hD) (S_R_copies hfl (Nat.le_refl _) h3 v4 (J 0) v5 (v6 * (J 140)))) (fun v8 h7 => ?_)
    refine y_aload_n d_R_remembers_70 rfl ?_
    refine y_dup d_R_remembers_71 rfl ?_
    refine y_getI d_R_remembers_72 f_R_53 (fun v9 => ?_)
    refine y_iconst (v := (J 1)) d_R_remembers_75 rfl ?_
    refine y_iadd (v := (v9 + (J 1))) d_R_remembers_76 rfl ?_
    refine y_put d_R_remembers_77 p_R_53 rfl rfl (fun h10 => ?_)
    exact y_retU d_R_remembers_80 rfl
  · refine y_icmp_ne (tgt := 50) d_R_remembers_6 (by decide) ?_ ?_
    · exact Hj2 h
    · refine y_iconst (v := (J 0)) d_R_remembers_9 rfl ?_
      refine y_istore_n (loc2 := [some (.ref a0), some (.int (J 0))]) d_R_remembers_10 (Nat.le_of_ble_eq_true rfl) rfl rfl ?_
      refine S_R_remembers_11 hfl hD (fun h15 => ?_) N h (J 0)
      refine y_aload_n d_R_remembers_40 rfl ?_
      refine y_dup d_R_remembers_41 rfl ?_
      refine y_getI d_R_remembers_42 f_R_53 (fun v16 => ?_)
      refine y_iconst (v := (J 1)) d_R_remembers_45 rfl ?_
      refine y_isub (v := (v16 - (J 1))) d_R_remembers_46 rfl ?_
      refine y_put d_R_remembers_47 p_R_53 rfl rfl (fun h17 => ?_)
      exact Hj2 h17
noncomputable def P_R_ends (Θ : mW) (N : Nat) (h : mH) (a0 : Nat) (a1 : Int32) : Option (Int32 × mH) :=
  (bo (rI Θ h 9 a0 13) (fun v1 => (if v1 = 0 then (gO Θ h 9 a0 (bc (P_R_remembers Θ N h a0) (fun v3 h2 => (some (a1, h2))))) else (bo (rA Θ h 9 a0 1) (fun v4 => (bo (rA Θ h 9 a0 0) (fun v5 => (bc (P_R_copies Θ N h v4 (J 0) v5 (J 0)) (fun v7 h6 => (some ((J 0), h6)))))))))))
theorem S_R_ends (hfl : HF l Θ) (hD : 3 ≤ d) (h : mH) (a0 : Nat) (a1 : Int32) : mMs l Θ d M_R_ends [.ref a0, .int a1] h (tR vI) (P_R_ends Θ N h a0 a1) := by
  refine mMs.of hfl (by decide +kernel) rfl (Nat.le_of_ble_eq_true rfl) (loc := [some (.ref a0), some (.int a1)]) rfl ?_
  unfold P_R_ends
  refine y_aload_n d_R_ends_0 rfl ?_
  refine y_getI d_R_ends_1 f_R_42 (fun v1 => ?_)
  refine y_if_eq (tgt := 22) d_R_ends_4 (by decide) ?_ ?_
  · refine y_aload_n d_R_ends_22 rfl ?_
    refine y_gO (fun fs1 g1 => y_cU (c_vi (rest := []) d_R_ends_23 k_R_remembers s_R_56 (Or.inl ⟨_, _, _, g1, rfl, rfl⟩) rfl rfl (Nat.le_of_ble_eq_true rfl) (Nat.le_trans (Nat.le_of_ble_eq_true rfl : 2 + 1 ≤ 3) hD) (S_R_remembers hfl (Nat.le_refl _) h a0)) (fun v3 h2 => ?_))
    refine y_iload_n d_R_ends_26 rfl ?_
    exact y_retI d_R_ends_27 rfl rfl
  · refine y_aload_n d_R_ends_7 rfl ?_
    refine y_getA d_R_ends_8 f_R_13 (fun v4 => ?_)
    refine y_iconst (v := (J 0)) d_R_ends_11 rfl ?_
    refine y_aload_n d_R_ends_12 rfl ?_
    refine y_getA d_R_ends_13 f_R_9 (fun v5 => ?_)
    refine y_iconst (v := (J 0)) d_R_ends_16 rfl ?_
    refine y_cU (c_st (rest := []) d_R_ends_17 k_R_copies s_R_49 rfl rfl (Nat.le_of_ble_eq_true rfl) (Nat.le_trans (Nat.le_of_ble_eq_true rfl : 1 + 1 ≤ 3) hD) (S_R_copies hfl (Nat.le_refl _) h v4 (J 0) v5 (J 0))) (fun v7 h6 => ?_)
    refine y_iconst (v := (J 0)) d_R_ends_20 rfl ?_
    exact y_retI d_R_ends_21 rfl rfl
noncomputable def P_R_addShip (Θ : mW) (N : Nat) (h : mH) (a0 : Nat) (a1 : Int32) (a2 : Int32) (a3 : Int32) : Option (Int32 × mH) :=
  (gO Θ h 9 a0 (bc (P_R_begins Θ N h a0) (fun v2 h1 => (gO Θ h1 9 a0 (bc (P_R_adds Θ N h1 a0 a1 a2 a3) (fun v4 h3 => (gO Θ h3 9 a0 (bc (P_R_ends Θ N h3 a0 v4) (fun v6 h5 => (some (v6, h5)))))))))))
theorem S_R_addShip (hfl : HF l Θ) (hD : 4 ≤ d) (h : mH) (a0 : Nat) (a1 : Int32) (a2 : Int32) (a3 : Int32) : mMs l Θ d M_R_addShip [.ref a0, .int a1, .int a2, .int a3] h (tR vI) (P_R_addShip Θ N h a0 a1 a2 a3) := by
  refine mMs.of hfl (by decide +kernel) rfl (Nat.le_of_ble_eq_true rfl) (loc := [some (.ref a0), some (.int a1), some (.int a2), some (.int a3)]) rfl ?_
  unfold P_R_addShip
  refine y_aload_n d_R_addShip_0 rfl ?_
  refine y_gO (fun fs1 g1 => y_cU (c_vi (rest := []) d_R_addShip_1 k_R_begins s_R_94 (Or.inl ⟨_, _, _, g1, rfl, rfl⟩) rfl rfl (Nat.le_of_ble_eq_true rfl) (Nat.le_trans (Nat.le_of_ble_eq_true rfl : 2 + 1 ≤ 4) hD) (S_R_begins hfl (Nat.le_refl _) h a0)) (fun v2 h1 => ?_))
  refine y_aload_n d_R_addShip_4 rfl ?_
  refine y_aload_n d_R_addShip_5 rfl ?_
  refine y_iload_n d_R_addShip_6 rfl ?_
  refine y_iload_n d_R_addShip_7 rfl ?_
  refine y_iload_n d_R_addShip_8 rfl ?_
  refine y_gO (fun fs1 g1 => y_cI (c_vi (rest := [.ref a0]) d_R_addShip_9 k_R_adds s_R_97 (Or.inl ⟨_, _, _, g1, rfl, rfl⟩) rfl rfl (Nat.le_of_ble_eq_true rfl) (Nat.le_trans (Nat.le_of_ble_eq_true rfl : 2 + 1 ≤ 4) hD) (S_R_adds hfl (Nat.le_refl _) h1 a0 a1 a2 a3)) (fun v4 h3 => ?_))
  refine y_gO (fun fs1 g1 => y_cI (c_vi (rest := []) d_R_addShip_12 k_R_ends s_R_101 (Or.inl ⟨_, _, _, g1, rfl, rfl⟩) rfl rfl (Nat.le_of_ble_eq_true rfl) (Nat.le_trans (Nat.le_of_ble_eq_true rfl : 3 + 1 ≤ 4) hD) (S_R_ends hfl (Nat.le_refl _) h3 a0 v4)) (fun v6 h5 => ?_))
  exact y_retI d_R_addShip_15 rfl rfl
noncomputable def P_R_of (Θ : mW) (N : Nat) (h : mH) (a0 : Nat) (a1 : Int32) (a2 : Int32) : Option (Int32 × mH) :=
  (bo (rA Θ h 9 a0 0) (fun v1 => (bc (P_R_place Θ N h a1 a2) (fun v3 h2 => (bo (aR Θ h2 0 v1 v3) (fun v4 => (some (v4, h2))))))))
theorem S_R_of (hfl : HF l Θ) (hD : 2 ≤ d) (h : mH) (a0 : Nat) (a1 : Int32) (a2 : Int32) : mMs l Θ d M_R_of [.ref a0, .int a1, .int a2] h (tR vI) (P_R_of Θ N h a0 a1 a2) := by
  refine mMs.of hfl (by decide +kernel) rfl (Nat.le_of_ble_eq_true rfl) (loc := [some (.ref a0), some (.int a1), some (.int a2)]) rfl ?_
  unfold P_R_of
  refine y_aload_n d_R_of_0 rfl ?_
  refine y_getA d_R_of_1 f_R_9 (fun v1 => ?_)
  refine y_iload_n d_R_of_4 rfl ?_
  refine y_iload_n d_R_of_5 rfl ?_
  refine y_cI (c_st (rest := [.ref v1]) d_R_of_6 k_R_place s_R_76 rfl rfl (Nat.le_of_ble_eq_true rfl) (Nat.le_trans (Nat.le_of_ble_eq_true rfl : 1 + 1 ≤ 2) hD) (S_R_place hfl (Nat.le_refl _) h a1 a2)) (fun v3 h2 => ?_)
  refine y_iald d_R_of_9 (fun v4 => ?_)
  exact y_retI d_R_of_10 rfl rfl
noncomputable def B_R_find_4 (Θ : mW) (N : Nat) (K36 : mH → Int32 → Option (Int32 × mH)) (f0_ : Nat) (f1_ : Int32) (rc : mH → Int32 → Int32 → Option (Int32 × mH)) (h : mH) (v2_ : Int32) (v3_ : Int32) : Option (Int32 × mH) :=
  (bo (rA Θ h 9 f0_ 0) (fun v1 => (bo (aR Θ h 0 v1 (J 4)) (fun v2 => (if v2 ≤ v3_ then (K36 h v2_) else (gO Θ h 9 f0_ (bc (P_R_of Θ N h f0_ v3_ (J 0)) (fun v4 h3 => (jn (fun (h6 : mH) (s7 : Int32) => (rc h6 s7 (v3_ + (J 1)))) (fun j5 => (if v4 = f1_ then (j5 h3 v3_) else (j5 h3 v2_))))))))))))
noncomputable def P_R_find_4 (Θ : mW) (N : Nat) (K36 : mH → Int32 → Option (Int32 × mH)) (f0_ : Nat) (f1_ : Int32) : Nat → mH → Int32 → Int32 → Option (Int32 × mH) :=
  lp (fun _ _ _ => none) (B_R_find_4 Θ N K36 f0_ f1_)
noncomputable def P_R_find (Θ : mW) (N : Nat) (h : mH) (a0 : Nat) (a1 : Int32) : Option (Int32 × mH) :=
  (P_R_find_4 Θ N (fun h8 u9 => (some (u9, h8))) a0 a1 N h (J (-1)) (J 0))
theorem SB_R_find_4 (hfl : HF l Θ) (hD : 3 ≤ d) {K36 : mH → Int32 → Option (Int32 × mH)} {f0_ : Nat} {f1_ : Int32}  (hK36 : ∀ (h : mH) (v2_ : Int32), mY l Θ d M_R_find 36 [none, none, some (.int v2_), none] [] h (tR vI) (K36 h v2_)) (rc : mH → Int32 → Int32 → Option (Int32 × mH)) (ih : ∀ (h : mH) (v2_ : Int32) (v3_ : Int32), mY l Θ d M_R_find 4 [some (.ref f0_), some (.int f1_), some (.int v2_), some (.int v3_)] [] h (tR vI) (rc h v2_ v3_)) : ∀ (h : mH) (v2_ : Int32) (v3_ : Int32), mY l Θ d M_R_find 4 [some (.ref f0_), some (.int f1_), some (.int v2_), some (.int v3_)] [] h (tR vI) (B_R_find_4 Θ N K36 f0_ f1_ rc h v2_ v3_) := by
  intro h v2_ v3_
  unfold B_R_find_4
  refine y_iload_n d_R_find_4 rfl ?_
  refine y_aload_n d_R_find_5 rfl ?_
  refine y_getA d_R_find_6 f_R_9 (fun v1 => ?_)
  refine y_iconst (v := (J 4)) d_R_find_9 rfl ?_
  refine y_iald d_R_find_10 (fun v2 => ?_)
  refine y_icmp_ge (tgt := 36) d_R_find_11 (by decide) ?_ ?_
  · exact y_wk (loc2 := [none, none, some (.int v2_), none]) ⟨rfl, trivial⟩ (hK36 h v2_)
  · refine y_aload_n d_R_find_14 rfl ?_
    refine y_iload_n d_R_find_15 rfl ?_
    refine y_iconst (v := (J 0)) d_R_find_16 rfl ?_
    refine y_gO (fun fs1 g1 => y_cI (c_vi (rest := []) d_R_find_17 k_R_of s_R_67 (Or.inl ⟨_, _, _, g1, rfl, rfl⟩) rfl rfl (Nat.le_of_ble_eq_true rfl) (Nat.le_trans (Nat.le_of_ble_eq_true rfl : 2 + 1 ≤ 3) hD) (S_R_of hfl (Nat.le_refl _) h f0_ v3_ (J 0))) (fun v4 h3 => ?_))
    refine y_iload_n d_R_find_20 rfl ?_
    refine y_jn (C := fun (j9 : mH → Int32 → Option (Int32 × mH)) => ∀ (h6 : mH) (s7 : Int32), mY l Θ d M_R_find 29 [some (.ref f0_), some (.int f1_), none, some (.int v3_)] [.int s7] h6 (tR vI) (j9 h6 s7)) (fun h6 s7 => ?_) (fun j5 Hj5 => ?_)
    · refine y_istore_n (loc2 := [some (.ref f0_), some (.int f1_), some (.int s7), some (.int v3_)]) d_R_find_29 (Nat.le_of_ble_eq_true rfl) rfl rfl ?_
      refine y_iinc (v := (v3_ + (J 1))) (loc2 := [some (.ref f0_), some (.int f1_), some (.int s7), some (.int (v3_ + (J 1)))]) d_R_find_30 rfl rfl (Nat.le_of_ble_eq_true rfl) rfl rfl ?_
      refine y_goto (tgt := 4) d_R_find_33 (by decide) ?_
      exact ih h6 s7 (v3_ + (J 1))
    · refine y_icmp_ne (tgt := 28) d_R_find_21 (by decide) ?_ ?_
      · refine y_iload_n d_R_find_28 rfl ?_
        exact y_wk (loc2 := [some (.ref f0_), some (.int f1_), none, some (.int v3_)]) ⟨rfl, ⟨rfl, ⟨rfl, trivial⟩⟩⟩ (Hj5 h3 v2_)
      · refine y_iload_n d_R_find_24 rfl ?_
        refine y_goto (tgt := 29) d_R_find_25 (by decide) ?_
        exact y_wk (loc2 := [some (.ref f0_), some (.int f1_), none, some (.int v3_)]) ⟨rfl, ⟨rfl, ⟨rfl, trivial⟩⟩⟩ (Hj5 h3 v3_)
theorem S_R_find_4 (hfl : HF l Θ) (hD : 3 ≤ d) {K36 : mH → Int32 → Option (Int32 × mH)} {f0_ : Nat} {f1_ : Int32}  (hK36 : ∀ (h : mH) (v2_ : Int32), mY l Θ d M_R_find 36 [none, none, some (.int v2_), none] [] h (tR vI) (K36 h v2_)) : ∀ (n : Nat) (h : mH) (v2_ : Int32) (v3_ : Int32), mY l Θ d M_R_find 4 [some (.ref f0_), some (.int f1_), some (.int v2_), some (.int v3_)] [] h (tR vI) (P_R_find_4 Θ N K36 f0_ f1_ n h v2_ v3_) :=
  fun n => lp_all (C := fun (rc : mH → Int32 → Int32 → Option (Int32 × mH)) => ∀ (h : mH) (v2_ : Int32) (v3_ : Int32), mY l Θ d M_R_find 4 [some (.ref f0_), some (.int f1_), some (.int v2_), some (.int v3_)] [] h (tR vI) (rc h v2_ v3_)) (fun _ _ _ => y_none) (fun rc ih => SB_R_find_4 hfl hD hK36 rc ih) n
theorem S_R_find (hfl : HF l Θ) (hD : 3 ≤ d) (h : mH) (a0 : Nat) (a1 : Int32) : mMs l Θ d M_R_find [.ref a0, .int a1] h (tR vI) (P_R_find Θ N h a0 a1) := by
  refine mMs.of hfl (by decide +kernel) rfl (Nat.le_of_ble_eq_true rfl) (loc := [some (.ref a0), some (.int a1), none, none]) rfl ?_
  unfold P_R_find
  refine y_iconst (v := (J (-1))) d_R_find_0 rfl ?_
  refine y_istore_n (loc2 := [some (.ref a0), some (.int a1), some (.int (J (-1))), none]) d_R_find_1 (Nat.le_of_ble_eq_true rfl) rfl rfl ?_
  refine y_iconst (v := (J 0)) d_R_find_2 rfl ?_
  refine y_istore_n (loc2 := [some (.ref a0), some (.int a1), some (.int (J (-1))), some (.int (J 0))]) d_R_find_3 (Nat.le_of_ble_eq_true rfl) rfl rfl ?_
  refine S_R_find_4 hfl hD (fun h8 u9 => ?_) N h (J (-1)) (J 0)
  refine y_iload_n d_R_find_36 rfl ?_
  exact y_retI d_R_find_37 rfl rfl
noncomputable def P_R_isDocked (Θ : mW) (N : Nat) (h : mH) (a0 : Nat) (a1 : Int32) : Option (Int32 × mH) :=
  (if a1 = (J (-1)) then (some ((J 0), h)) else (gO Θ h 9 a0 (bc (P_R_of Θ N h a0 a1 (J 4)) (fun v2 h1 => (if v2 = (J (-1)) then (some ((J 0), h1)) else (some ((J 1), h1)))))))
theorem S_R_isDocked (hfl : HF l Θ) (hD : 3 ≤ d) (h : mH) (a0 : Nat) (a1 : Int32) : mMs l Θ d M_R_isDocked [.ref a0, .int a1] h (tR vI) (P_R_isDocked Θ N h a0 a1) := by
  refine mMs.of hfl (by decide +kernel) rfl (Nat.le_of_ble_eq_true rfl) (loc := [some (.ref a0), some (.int a1)]) rfl ?_
  unfold P_R_isDocked
  refine y_iload_n d_R_isDocked_0 rfl ?_
  refine y_iconst (v := (J (-1))) d_R_isDocked_1 rfl ?_
  refine y_icmp_eq (tgt := 19) d_R_isDocked_2 (by decide) ?_ ?_
  · refine y_iconst (v := (J 0)) d_R_isDocked_19 rfl ?_
    exact y_retI d_R_isDocked_20 rfl (by decide +kernel)
  · refine y_aload_n d_R_isDocked_5 rfl ?_
    refine y_iload_n d_R_isDocked_6 rfl ?_
    refine y_iconst (v := (J 4)) d_R_isDocked_7 rfl ?_
    refine y_gO (fun fs1 g1 => y_cI (c_vi (rest := []) d_R_isDocked_8 k_R_of s_R_67 (Or.inl ⟨_, _, _, g1, rfl, rfl⟩) rfl rfl (Nat.le_of_ble_eq_true rfl) (Nat.le_trans (Nat.le_of_ble_eq_true rfl : 2 + 1 ≤ 3) hD) (S_R_of hfl (Nat.le_refl _) h a0 a1 (J 4))) (fun v2 h1 => ?_))
    refine y_iconst (v := (J (-1))) d_R_isDocked_11 rfl ?_
    refine y_icmp_eq (tgt := 19) d_R_isDocked_12 (by decide) ?_ ?_
    · refine y_iconst (v := (J 0)) d_R_isDocked_19 rfl ?_
      exact y_retI d_R_isDocked_20 rfl (by decide +kernel)
    · refine y_iconst (v := (J 1)) d_R_isDocked_15 rfl ?_
      refine y_goto (tgt := 20) d_R_isDocked_16 (by decide) ?_
      exact y_retI d_R_isDocked_20 rfl (by decide +kernel)
noncomputable def B_R_removes_64 (Θ : mW) (N : Nat) (K94 : mH → Option (Int32 × mH)) (f0_ : Nat) (f3_ : Int32) (rc : mH → Int32 → Option (Int32 × mH)) (h : mH) (v4_ : Int32) : Option (Int32 × mH) :=
  (if (J 71) ≤ v4_ then (K94 h) else (bo (rA Θ h 9 f0_ 0) (fun v17 => (bo (rA Θ h 9 f0_ 0) (fun v18 => (bo (aR Θ h 0 v18 (v4_ + (J 9))) (fun v19 => (bo (aW Θ h 0 v17 v4_ v19) (fun h20 => (rc h20 (v4_ + (J 1))))))))))))
noncomputable def P_R_removes_64 (Θ : mW) (N : Nat) (K94 : mH → Option (Int32 × mH)) (f0_ : Nat) (f3_ : Int32) : Nat → mH → Int32 → Option (Int32 × mH) :=
  lp (fun _ _ => none) (B_R_removes_64 Θ N K94 f0_ f3_)
noncomputable def P_R_removes (Θ : mW) (N : Nat) (h : mH) (a0 : Nat) (a1 : Int32) : Option (Int32 × mH) :=
  (gO Θ h 9 a0 (bc (P_R_find Θ N h a0 a1) (fun v2 h1 => (jn (fun (h4 : mH) (s5 : Int32) => (gO Θ h4 9 a0 (bc (P_R_isDocked Θ N h4 a0 v2) (fun v7 h6 => (jn (fun (h9 : mH) (s10 : Int32) => (gO Θ h9 9 a0 (bc (P_R_holds Θ N h9 a0 s5 s10 (J 1) (J 1)) (fun v12 h11 => (if v12 = 0 then (some ((J 0), h11)) else (gO Θ h11 9 a0 (bc (P_R_of Θ N h11 a0 v2 (J 3)) (fun v14 h13 => (bc (P_R_place Θ N h13 v2 (J 0)) (fun v16 h15 => (P_R_removes_64 Θ N (fun h21 => (bo (rA Θ h21 9 a0 0) (fun v22 => (bo (aR Θ h21 0 v22 (J 4)) (fun v23 => (bo (aW Θ h21 0 v22 (J 4) (v23 - (J 1))) (fun h24 => (some (v14, h24))))))))) a0 v14 N h15 v16))))))))))) (fun j8 => (jn (fun (h26 : mH) => (j8 h26 (J 0))) (fun j25 => (if v7 = 0 then (gO Θ h6 9 a0 (bc (P_R_of Θ N h6 a0 v2 (J 8)) (fun v28 h27 => (if v28 = 0 then (j8 h27 (J 1)) else (j25 h27))))) else (j25 h6)))))))))) (fun j3 => (if v2 = (J (-1)) then (j3 h1 (J 0)) else (j3 h1 (J 1))))))))
theorem SB_R_removes_64 (hfl : HF l Θ) (hD : 4 ≤ d) {K94 : mH → Option (Int32 × mH)} {f0_ : Nat} {f3_ : Int32}  (hK94 : ∀ (h : mH), mY l Θ d M_R_removes 94 [some (.ref f0_), none, none, some (.int f3_), none] [] h (tR vI) (K94 h)) (rc : mH → Int32 → Option (Int32 × mH)) (ih : ∀ (h : mH) (v4_ : Int32), mY l Θ d M_R_removes 64 [some (.ref f0_), none, none, some (.int f3_), some (.int v4_)] [] h (tR vI) (rc h v4_)) : ∀ (h : mH) (v4_ : Int32), mY l Θ d M_R_removes 64 [some (.ref f0_), none, none, some (.int f3_), some (.int v4_)] [] h (tR vI) (B_R_removes_64 Θ N K94 f0_ f3_ rc h v4_) := by
  intro h v4_
  unfold B_R_removes_64
  refine y_iload d_R_removes_64 rfl ?_
  refine y_bipush (v := (J 71)) d_R_removes_66 (by decide +kernel) ?_
  refine y_icmp_ge (tgt := 94) d_R_removes_68 (by decide) ?_ ?_
  · exact y_wk (loc2 := [some (.ref f0_), none, none, some (.int f3_), none]) ⟨rfl, ⟨rfl, trivial⟩⟩ (hK94 h)
  · refine y_aload_n d_R_removes_71 rfl ?_
    refine y_getA d_R_removes_72 f_R_9 (fun v17 => ?_)
    refine y_iload d_R_removes_75 rfl ?_
    refine y_aload_n d_R_removes_77 rfl ?_
    refine y_getA d_R_removes_78 f_R_9 (fun v18 => ?_)
    refine y_iload d_R_removes_81 rfl ?_
    refine y_bipush (v := (J 9)) d_R_removes_83 (by decide +kernel) ?_
    refine y_iadd (v := (v4_ + (J 9))) d_R_removes_85 rfl ?_
    refine y_iald d_R_removes_86 (fun v19 => ?_)
    refine y_iast d_R_removes_87 (fun h20 => ?_)
    refine y_iinc (v := (v4_ + (J 1))) (loc2 := [some (.ref f0_), none, none, some (.int f3_), some (.int (v4_ + (J 1)))]) d_R_removes_88 rfl rfl (Nat.le_of_ble_eq_true rfl) rfl rfl ?_
    refine y_goto (tgt := 64) d_R_removes_91 (by decide) ?_
    exact ih h20 (v4_ + (J 1))
theorem S_R_removes_64 (hfl : HF l Θ) (hD : 4 ≤ d) {K94 : mH → Option (Int32 × mH)} {f0_ : Nat} {f3_ : Int32}  (hK94 : ∀ (h : mH), mY l Θ d M_R_removes 94 [some (.ref f0_), none, none, some (.int f3_), none] [] h (tR vI) (K94 h)) : ∀ (n : Nat) (h : mH) (v4_ : Int32), mY l Θ d M_R_removes 64 [some (.ref f0_), none, none, some (.int f3_), some (.int v4_)] [] h (tR vI) (P_R_removes_64 Θ N K94 f0_ f3_ n h v4_) :=
  fun n => lp_all (C := fun (rc : mH → Int32 → Option (Int32 × mH)) => ∀ (h : mH) (v4_ : Int32), mY l Θ d M_R_removes 64 [some (.ref f0_), none, none, some (.int f3_), some (.int v4_)] [] h (tR vI) (rc h v4_)) (fun _ _ => y_none) (fun rc ih => SB_R_removes_64 hfl hD hK94 rc ih) n
theorem S_R_removes (hfl : HF l Θ) (hD : 4 ≤ d) (h : mH) (a0 : Nat) (a1 : Int32) : mMs l Θ d M_R_removes [.ref a0, .int a1] h (tR vI) (P_R_removes Θ N h a0 a1) := by
  refine mMs.of hfl (by decide +kernel) rfl (Nat.le_of_ble_eq_true rfl) (loc := [some (.ref a0), some (.int a1), none, none, none]) rfl ?_
  unfold P_R_removes
  refine y_aload_n d_R_removes_0 rfl ?_
  refine y_iload_n d_R_removes_1 rfl ?_
  refine y_gO (fun fs1 g1 => y_cI (c_vi (rest := []) d_R_removes_2 k_R_find s_R_104 (Or.inl ⟨_, _, _, g1, rfl, rfl⟩) rfl rfl (Nat.le_of_ble_eq_true rfl) (Nat.le_trans (Nat.le_of_ble_eq_true rfl : 3 + 1 ≤ 4) hD) (S_R_find hfl (Nat.le_refl _) h a0 a1)) (fun v2 h1 => ?_))
  refine y_istore_n (loc2 := [some (.ref a0), some (.int a1), some (.int v2), none, none]) d_R_removes_5 (Nat.le_of_ble_eq_true rfl) rfl rfl ?_
  refine y_aload_n d_R_removes_6 rfl ?_
  refine y_iload_n d_R_removes_7 rfl ?_
  refine y_iconst (v := (J (-1))) d_R_removes_8 rfl ?_
  refine y_jn (C := fun (j9 : mH → Int32 → Option (Int32 × mH)) => ∀ (h4 : mH) (s5 : Int32), mY l Θ d M_R_removes 17 [some (.ref a0), none, some (.int v2), none, none] [.int s5, .ref a0] h4 (tR vI) (j9 h4 s5)) (fun h4 s5 => ?_) (fun j3 Hj3 => ?_)
  · refine y_aload_n d_R_removes_17 rfl ?_
    refine y_iload_n d_R_removes_18 rfl ?_
    refine y_gO (fun fs1 g1 => y_cI (c_vi (rest := [.int s5, .ref a0]) d_R_removes_19 k_R_isDocked s_R_79 (Or.inl ⟨_, _, _, g1, rfl, rfl⟩) rfl rfl (Nat.le_of_ble_eq_true rfl) (Nat.le_trans (Nat.le_of_ble_eq_true rfl : 3 + 1 ≤ 4) hD) (S_R_isDocked hfl (Nat.le_refl _) h4 a0 v2)) (fun v7 h6 => ?_))
    refine y_jn (C := fun (j9 : mH → Int32 → Option (Int32 × mH)) => ∀ (h9 : mH) (s10 : Int32), mY l Θ d M_R_removes 40 [some (.ref a0), none, some (.int v2), none, none] [.int s10, .int s5, .ref a0] h9 (tR vI) (j9 h9 s10)) (fun h9 s10 => ?_) (fun j8 Hj8 => ?_)
    · refine y_iconst (v := (J 1)) d_R_removes_40 rfl ?_
      refine y_iconst (v := (J 1)) d_R_removes_41 rfl ?_
      refine y_gO (fun fs1 g1 => y_cI (c_vi (rest := []) d_R_removes_42 k_R_holds s_R_45 (Or.inl ⟨_, _, _, g1, rfl, rfl⟩) rfl rfl (Nat.le_of_ble_eq_true rfl) (Nat.le_trans (Nat.le_of_ble_eq_true rfl : 1 + 1 ≤ 4) hD) (S_R_holds hfl (Nat.le_refl _) h9 a0 s5 s10 (J 1) (J 1))) (fun v12 h11 => ?_))
      refine y_if_ne (tgt := 50) d_R_removes_45 (by decide) ?_ ?_
      · refine y_aload_n d_R_removes_50 rfl ?_
        refine y_iload_n d_R_removes_51 rfl ?_
        refine y_iconst (v := (J 3)) d_R_removes_52 rfl ?_
        refine y_gO (fun fs1 g1 => y_cI (c_vi (rest := []) d_R_removes_53 k_R_of s_R_67 (Or.inl ⟨_, _, _, g1, rfl, rfl⟩) rfl rfl (Nat.le_of_ble_eq_true rfl) (Nat.le_trans (Nat.le_of_ble_eq_true rfl : 2 + 1 ≤ 4) hD) (S_R_of hfl (Nat.le_refl _) h11 a0 v2 (J 3))) (fun v14 h13 => ?_))
        refine y_istore_n (loc2 := [some (.ref a0), none, some (.int v2), some (.int v14), none]) d_R_removes_56 (Nat.le_of_ble_eq_true rfl) rfl rfl ?_
        refine y_iload_n d_R_removes_57 rfl ?_
        refine y_iconst (v := (J 0)) d_R_removes_58 rfl ?_
        refine y_cI (c_st (rest := []) d_R_removes_59 k_R_place s_R_76 rfl rfl (Nat.le_of_ble_eq_true rfl) (Nat.le_trans (Nat.le_of_ble_eq_true rfl : 1 + 1 ≤ 4) hD) (S_R_place hfl (Nat.le_refl _) h13 v2 (J 0))) (fun v16 h15 => ?_)
        refine y_istore (loc2 := [some (.ref a0), none, some (.int v2), some (.int v14), some (.int v16)]) d_R_removes_62 (Nat.le_of_ble_eq_true rfl) rfl rfl ?_
        refine y_wk (loc2 := [some (.ref a0), none, none, some (.int v14), some (.int v16)]) ⟨rfl, ⟨rfl, ⟨rfl, trivial⟩⟩⟩ ?_
        refine S_R_removes_64 hfl hD (fun h21 => ?_) N h15 v16
        refine y_aload_n d_R_removes_94 rfl ?_
        refine y_getA d_R_removes_95 f_R_9 (fun v22 => ?_)
        refine y_iconst (v := (J 4)) d_R_removes_98 rfl ?_
        refine y_dup2 d_R_removes_99 rfl rfl ?_
        refine y_iald d_R_removes_100 (fun v23 => ?_)
        refine y_iconst (v := (J 1)) d_R_removes_101 rfl ?_
        refine y_isub (v := (v23 - (J 1))) d_R_removes_102 rfl ?_
        refine y_iast d_R_removes_103 (fun h24 => ?_)
        refine y_iload_n d_R_removes_104 rfl ?_
        exact y_retI d_R_removes_105 rfl rfl
      · refine y_iconst (v := (J 0)) d_R_removes_48 rfl ?_
        exact y_retI d_R_removes_49 rfl rfl
    · refine y_jn (C := fun (j9 : mH → Option (Int32 × mH)) => ∀ (h26 : mH), mY l Θ d M_R_removes 39 [some (.ref a0), none, some (.int v2), none, none] [.int s5, .ref a0] h26 (tR vI) (j9 h26)) (fun h26 => ?_) (fun j25 Hj25 => ?_)
      · refine y_iconst (v := (J 0)) d_R_removes_39 rfl ?_
        exact Hj8 h26 (J 0)
      · refine y_if_ne (tgt := 39) d_R_removes_22 (by decide) ?_ ?_
        · exact Hj25 h6
        · refine y_aload_n d_R_removes_25 rfl ?_
          refine y_iload_n d_R_removes_26 rfl ?_
          refine y_bipush (v := (J 8)) d_R_removes_27 (by decide +kernel) ?_
          refine y_gO (fun fs1 g1 => y_cI (c_vi (rest := [.int s5, .ref a0]) d_R_removes_29 k_R_of s_R_67 (Or.inl ⟨_, _, _, g1, rfl, rfl⟩) rfl rfl (Nat.le_of_ble_eq_true rfl) (Nat.le_trans (Nat.le_of_ble_eq_true rfl : 2 + 1 ≤ 4) hD) (S_R_of hfl (Nat.le_refl _) h6 a0 v2 (J 8))) (fun v28 h27 => ?_))
          refine y_if_ne (tgt := 39) d_R_removes_32 (by decide) ?_ ?_
          · exact Hj25 h27
          · refine y_iconst (v := (J 1)) d_R_removes_35 rfl ?_
            refine y_goto (tgt := 40) d_R_removes_36 (by decide) ?_
            exact Hj8 h27 (J 1)
  · refine y_icmp_eq (tgt := 16) d_R_removes_9 (by decide) ?_ ?_
    · refine y_iconst (v := (J 0)) d_R_removes_16 rfl ?_
      exact y_wk (loc2 := [some (.ref a0), none, some (.int v2), none, none]) ⟨rfl, ⟨rfl, trivial⟩⟩ (Hj3 h1 (J 0))
    · refine y_iconst (v := (J 1)) d_R_removes_12 rfl ?_
      refine y_goto (tgt := 17) d_R_removes_13 (by decide) ?_
      exact y_wk (loc2 := [some (.ref a0), none, some (.int v2), none, none]) ⟨rfl, ⟨rfl, trivial⟩⟩ (Hj3 h1 (J 1))
noncomputable def P_R_removeShip (Θ : mW) (N : Nat) (h : mH) (a0 : Nat) (a1 : Int32) : Option (Int32 × mH) :=
  (gO Θ h 9 a0 (bc (P_R_begins Θ N h a0) (fun v2 h1 => (gO Θ h1 9 a0 (bc (P_R_removes Θ N h1 a0 a1) (fun v4 h3 => (gO Θ h3 9 a0 (bc (P_R_ends Θ N h3 a0 v4) (fun v6 h5 => (some (v6, h5)))))))))))
theorem S_R_removeShip (hfl : HF l Θ) (hD : 5 ≤ d) (h : mH) (a0 : Nat) (a1 : Int32) : mMs l Θ d M_R_removeShip [.ref a0, .int a1] h (tR vI) (P_R_removeShip Θ N h a0 a1) := by
  refine mMs.of hfl (by decide +kernel) rfl (Nat.le_of_ble_eq_true rfl) (loc := [some (.ref a0), some (.int a1)]) rfl ?_
  unfold P_R_removeShip
  refine y_aload_n d_R_removeShip_0 rfl ?_
  refine y_gO (fun fs1 g1 => y_cU (c_vi (rest := []) d_R_removeShip_1 k_R_begins s_R_94 (Or.inl ⟨_, _, _, g1, rfl, rfl⟩) rfl rfl (Nat.le_of_ble_eq_true rfl) (Nat.le_trans (Nat.le_of_ble_eq_true rfl : 2 + 1 ≤ 5) hD) (S_R_begins hfl (Nat.le_refl _) h a0)) (fun v2 h1 => ?_))
  refine y_aload_n d_R_removeShip_4 rfl ?_
  refine y_aload_n d_R_removeShip_5 rfl ?_
  refine y_iload_n d_R_removeShip_6 rfl ?_
  refine y_gO (fun fs1 g1 => y_cI (c_vi (rest := [.ref a0]) d_R_removeShip_7 k_R_removes s_R_107 (Or.inl ⟨_, _, _, g1, rfl, rfl⟩) rfl rfl (Nat.le_of_ble_eq_true rfl) (Nat.le_trans (Nat.le_of_ble_eq_true rfl : 4 + 1 ≤ 5) hD) (S_R_removes hfl (Nat.le_refl _) h1 a0 a1)) (fun v4 h3 => ?_))
  refine y_gO (fun fs1 g1 => y_cI (c_vi (rest := []) d_R_removeShip_10 k_R_ends s_R_101 (Or.inl ⟨_, _, _, g1, rfl, rfl⟩) rfl rfl (Nat.le_of_ble_eq_true rfl) (Nat.le_trans (Nat.le_of_ble_eq_true rfl : 3 + 1 ≤ 5) hD) (S_R_ends hfl (Nat.le_refl _) h3 a0 v4)) (fun v6 h5 => ?_))
  exact y_retI d_R_removeShip_13 rfl rfl
noncomputable def B_R_docked_4 (Θ : mW) (N : Nat) (K36 : mH → Int32 → Option (Int32 × mH)) (f0_ : Nat) (rc : mH → Int32 → Int32 → Option (Int32 × mH)) (h : mH) (v1_ : Int32) (v2_ : Int32) : Option (Int32 × mH) :=
  (bo (rA Θ h 9 f0_ 0) (fun v1 => (bo (aR Θ h 0 v1 (J 4)) (fun v2 => (if v2 ≤ v2_ then (K36 h v1_) else (gO Θ h 9 f0_ (bc (P_R_isDocked Θ N h f0_ v2_) (fun v4 h3 => (jn (fun (h6 : mH) (s7 : Int32) => (rc h6 (v1_ + s7) (v2_ + (J 1)))) (fun j5 => (if v4 = 0 then (j5 h3 (J 0)) else (j5 h3 (J 1)))))))))))))
noncomputable def P_R_docked_4 (Θ : mW) (N : Nat) (K36 : mH → Int32 → Option (Int32 × mH)) (f0_ : Nat) : Nat → mH → Int32 → Int32 → Option (Int32 × mH) :=
  lp (fun _ _ _ => none) (B_R_docked_4 Θ N K36 f0_)
noncomputable def P_R_docked (Θ : mW) (N : Nat) (h : mH) (a0 : Nat) : Option (Int32 × mH) :=
  (P_R_docked_4 Θ N (fun h8 u9 => (some (u9, h8))) a0 N h (J 0) (J 0))
theorem SB_R_docked_4 (hfl : HF l Θ) (hD : 4 ≤ d) {K36 : mH → Int32 → Option (Int32 × mH)} {f0_ : Nat}  (hK36 : ∀ (h : mH) (v1_ : Int32), mY l Θ d M_R_docked 36 [none, some (.int v1_), none] [] h (tR vI) (K36 h v1_)) (rc : mH → Int32 → Int32 → Option (Int32 × mH)) (ih : ∀ (h : mH) (v1_ : Int32) (v2_ : Int32), mY l Θ d M_R_docked 4 [some (.ref f0_), some (.int v1_), some (.int v2_)] [] h (tR vI) (rc h v1_ v2_)) : ∀ (h : mH) (v1_ : Int32) (v2_ : Int32), mY l Θ d M_R_docked 4 [some (.ref f0_), some (.int v1_), some (.int v2_)] [] h (tR vI) (B_R_docked_4 Θ N K36 f0_ rc h v1_ v2_) := by
  intro h v1_ v2_
  unfold B_R_docked_4
  refine y_iload_n d_R_docked_4 rfl ?_
  refine y_aload_n d_R_docked_5 rfl ?_
  refine y_getA d_R_docked_6 f_R_9 (fun v1 => ?_)
  refine y_iconst (v := (J 4)) d_R_docked_9 rfl ?_
  refine y_iald d_R_docked_10 (fun v2 => ?_)
  refine y_icmp_ge (tgt := 36) d_R_docked_11 (by decide) ?_ ?_
  · exact y_wk (loc2 := [none, some (.int v1_), none]) ⟨rfl, trivial⟩ (hK36 h v1_)
  · refine y_iload_n d_R_docked_14 rfl ?_
    refine y_aload_n d_R_docked_15 rfl ?_
    refine y_iload_n d_R_docked_16 rfl ?_
    refine y_gO (fun fs1 g1 => y_cI (c_vi (rest := [.int v1_]) d_R_docked_17 k_R_isDocked s_R_79 (Or.inl ⟨_, _, _, g1, rfl, rfl⟩) rfl rfl (Nat.le_of_ble_eq_true rfl) (Nat.le_trans (Nat.le_of_ble_eq_true rfl : 3 + 1 ≤ 4) hD) (S_R_isDocked hfl (Nat.le_refl _) h f0_ v2_)) (fun v4 h3 => ?_))
    refine y_jn (C := fun (j9 : mH → Int32 → Option (Int32 × mH)) => ∀ (h6 : mH) (s7 : Int32), mY l Θ d M_R_docked 28 [some (.ref f0_), none, some (.int v2_)] [.int s7, .int v1_] h6 (tR vI) (j9 h6 s7)) (fun h6 s7 => ?_) (fun j5 Hj5 => ?_)
    · refine y_iadd (v := (v1_ + s7)) d_R_docked_28 rfl ?_
      refine y_istore_n (loc2 := [some (.ref f0_), some (.int (v1_ + s7)), some (.int v2_)]) d_R_docked_29 (Nat.le_of_ble_eq_true rfl) rfl rfl ?_
      refine y_iinc (v := (v2_ + (J 1))) (loc2 := [some (.ref f0_), some (.int (v1_ + s7)), some (.int (v2_ + (J 1)))]) d_R_docked_30 rfl rfl (Nat.le_of_ble_eq_true rfl) rfl rfl ?_
      refine y_goto (tgt := 4) d_R_docked_33 (by decide) ?_
      exact ih h6 (v1_ + s7) (v2_ + (J 1))
    · refine y_if_eq (tgt := 27) d_R_docked_20 (by decide) ?_ ?_
      · refine y_iconst (v := (J 0)) d_R_docked_27 rfl ?_
        exact y_wk (loc2 := [some (.ref f0_), none, some (.int v2_)]) ⟨rfl, ⟨rfl, trivial⟩⟩ (Hj5 h3 (J 0))
      · refine y_iconst (v := (J 1)) d_R_docked_23 rfl ?_
        refine y_goto (tgt := 28) d_R_docked_24 (by decide) ?_
        exact y_wk (loc2 := [some (.ref f0_), none, some (.int v2_)]) ⟨rfl, ⟨rfl, trivial⟩⟩ (Hj5 h3 (J 1))
theorem S_R_docked_4 (hfl : HF l Θ) (hD : 4 ≤ d) {K36 : mH → Int32 → Option (Int32 × mH)} {f0_ : Nat}  (hK36 : ∀ (h : mH) (v1_ : Int32), mY l Θ d M_R_docked 36 [none, some (.int v1_), none] [] h (tR vI) (K36 h v1_)) : ∀ (n : Nat) (h : mH) (v1_ : Int32) (v2_ : Int32), mY l Θ d M_R_docked 4 [some (.ref f0_), some (.int v1_), some (.int v2_)] [] h (tR vI) (P_R_docked_4 Θ N K36 f0_ n h v1_ v2_) :=
  fun n => lp_all (C := fun (rc : mH → Int32 → Int32 → Option (Int32 × mH)) => ∀ (h : mH) (v1_ : Int32) (v2_ : Int32), mY l Θ d M_R_docked 4 [some (.ref f0_), some (.int v1_), some (.int v2_)] [] h (tR vI) (rc h v1_ v2_)) (fun _ _ _ => y_none) (fun rc ih => SB_R_docked_4 hfl hD hK36 rc ih) n
theorem S_R_docked (hfl : HF l Θ) (hD : 4 ≤ d) (h : mH) (a0 : Nat) : mMs l Θ d M_R_docked [.ref a0] h (tR vI) (P_R_docked Θ N h a0) := by
  refine mMs.of hfl (by decide +kernel) rfl (Nat.le_of_ble_eq_true rfl) (loc := [some (.ref a0), none, none]) rfl ?_
  unfold P_R_docked
  refine y_iconst (v := (J 0)) d_R_docked_0 rfl ?_
  refine y_istore_n (loc2 := [some (.ref a0), some (.int (J 0)), none]) d_R_docked_1 (Nat.le_of_ble_eq_true rfl) rfl rfl ?_
  refine y_iconst (v := (J 0)) d_R_docked_2 rfl ?_
  refine y_istore_n (loc2 := [some (.ref a0), some (.int (J 0)), some (.int (J 0))]) d_R_docked_3 (Nat.le_of_ble_eq_true rfl) rfl rfl ?_
  refine S_R_docked_4 hfl hD (fun h8 u9 => ?_) N h (J 0) (J 0)
  refine y_iload_n d_R_docked_36 rfl ?_
  exact y_retI d_R_docked_37 rfl rfl
noncomputable def B_R_at_4 (Θ : mW) (N : Nat) (K74 : mH → Int32 → Option (Int32 × mH)) (f0_ : Nat) (f1_ : Int32) (rc : mH → Int32 → Int32 → Option (Int32 × mH)) (h : mH) (v2_ : Int32) (v3_ : Int32) : Option (Int32 × mH) :=
  (bo (rA Θ h 9 f0_ 0) (fun v1 => (bo (aR Θ h 0 v1 (J 4)) (fun v2 => (if v2 ≤ v3_ then (K74 h v2_) else (gO Θ h 9 f0_ (bc (P_R_isDocked Θ N h f0_ v3_) (fun v4 h3 => (jn (fun (h6 : mH) (s7 : Int32) => (jn (fun (h9 : mH) (s10 : Int32) => (rc h9 s10 (v3_ + (J 1)))) (fun j8 => (if s7 = 0 then (j8 h6 v2_) else (j8 h6 v3_))))) (fun j5 => (jn (fun (h12 : mH) => (j5 h12 (J 0))) (fun j11 => (if v4 = 0 then (j11 h3) else (gO Θ h3 9 f0_ (bc (P_R_of Θ N h3 f0_ v3_ (J 4)) (fun v14 h13 => (gO Θ h13 9 f0_ (bc (P_R_of Θ N h13 f0_ v3_ (J 4)) (fun v16 h15 => (gO Θ h15 9 f0_ (bc (P_R_of Θ N h15 f0_ v3_ (J 1)) (fun v18 h17 => (bc (P_R_isIn Θ N h17 f1_ v14 ((v16 + v18) - (J 1))) (fun v20 h19 => (if v20 = 0 then (j11 h19) else (j5 h19 (J 1)))))))))))))))))))))))))))
noncomputable def P_R_at_4 (Θ : mW) (N : Nat) (K74 : mH → Int32 → Option (Int32 × mH)) (f0_ : Nat) (f1_ : Int32) : Nat → mH → Int32 → Int32 → Option (Int32 × mH) :=
  lp (fun _ _ _ => none) (B_R_at_4 Θ N K74 f0_ f1_)
noncomputable def P_R_at (Θ : mW) (N : Nat) (h : mH) (a0 : Nat) (a1 : Int32) : Option (Int32 × mH) :=
  (P_R_at_4 Θ N (fun h21 u22 => (some (u22, h21))) a0 a1 N h (J (-1)) (J 0))
theorem SB_R_at_4 (hfl : HF l Θ) (hD : 4 ≤ d) {K74 : mH → Int32 → Option (Int32 × mH)} {f0_ : Nat} {f1_ : Int32}  (hK74 : ∀ (h : mH) (v2_ : Int32), mY l Θ d M_R_at 74 [none, none, some (.int v2_), none, none] [] h (tR vI) (K74 h v2_)) (rc : mH → Int32 → Int32 → Option (Int32 × mH)) (ih : ∀ (h : mH) (v2_ : Int32) (v3_ : Int32), mY l Θ d M_R_at 4 [some (.ref f0_), some (.int f1_), some (.int v2_), some (.int v3_), none] [] h (tR vI) (rc h v2_ v3_)) : ∀ (h : mH) (v2_ : Int32) (v3_ : Int32), mY l Θ d M_R_at 4 [some (.ref f0_), some (.int f1_), some (.int v2_), some (.int v3_), none] [] h (tR vI) (B_R_at_4 Θ N K74 f0_ f1_ rc h v2_ v3_) := by
  intro h v2_ v3_
  unfold B_R_at_4
  refine y_iload_n d_R_at_4 rfl ?_
  refine y_aload_n d_R_at_5 rfl ?_
  refine y_getA d_R_at_6 f_R_9 (fun v1 => ?_)
  refine y_iconst (v := (J 4)) d_R_at_9 rfl ?_
  refine y_iald d_R_at_10 (fun v2 => ?_)
  refine y_icmp_ge (tgt := 74) d_R_at_11 (by decide) ?_ ?_
  · exact y_wk (loc2 := [none, none, some (.int v2_), none, none]) ⟨rfl, trivial⟩ (hK74 h v2_)
  · refine y_aload_n d_R_at_14 rfl ?_
    refine y_iload_n d_R_at_15 rfl ?_
    refine y_gO (fun fs1 g1 => y_cI (c_vi (rest := []) d_R_at_16 k_R_isDocked s_R_79 (Or.inl ⟨_, _, _, g1, rfl, rfl⟩) rfl rfl (Nat.le_of_ble_eq_true rfl) (Nat.le_trans (Nat.le_of_ble_eq_true rfl : 3 + 1 ≤ 4) hD) (S_R_isDocked hfl (Nat.le_refl _) h f0_ v3_)) (fun v4 h3 => ?_))
    refine y_jn (C := fun (j9 : mH → Int32 → Option (Int32 × mH)) => ∀ (h6 : mH) (s7 : Int32), mY l Θ d M_R_at 55 [some (.ref f0_), some (.int f1_), some (.int v2_), some (.int v3_), none] [.int s7] h6 (tR vI) (j9 h6 s7)) (fun h6 s7 => ?_) (fun j5 Hj5 => ?_)
    · refine y_istore (loc2 := [some (.ref f0_), some (.int f1_), some (.int v2_), some (.int v3_), some (.int s7)]) d_R_at_55 (Nat.le_of_ble_eq_true rfl) rfl rfl ?_
      refine y_iload d_R_at_57 rfl ?_
      refine y_jn (C := fun (j9 : mH → Int32 → Option (Int32 × mH)) => ∀ (h9 : mH) (s10 : Int32), mY l Θ d M_R_at 67 [some (.ref f0_), some (.int f1_), none, some (.int v3_), none] [.int s10] h9 (tR vI) (j9 h9 s10)) (fun h9 s10 => ?_) (fun j8 Hj8 => ?_)
      · refine y_istore_n (loc2 := [some (.ref f0_), some (.int f1_), some (.int s10), some (.int v3_), none]) d_R_at_67 (Nat.le_of_ble_eq_true rfl) rfl rfl ?_
        refine y_iinc (v := (v3_ + (J 1))) (loc2 := [some (.ref f0_), some (.int f1_), some (.int s10), some (.int (v3_ + (J 1))), none]) d_R_at_68 rfl rfl (Nat.le_of_ble_eq_true rfl) rfl rfl ?_
        refine y_goto (tgt := 4) d_R_at_71 (by decide) ?_
        exact ih h9 s10 (v3_ + (J 1))
      · refine y_if_eq (tgt := 66) d_R_at_59 (by decide) ?_ ?_
        · refine y_iload_n d_R_at_66 rfl ?_
          exact y_wk (loc2 := [some (.ref f0_), some (.int f1_), none, some (.int v3_), none]) ⟨rfl, ⟨rfl, ⟨rfl, trivial⟩⟩⟩ (Hj8 h6 v2_)
        · refine y_iload_n d_R_at_62 rfl ?_
          refine y_goto (tgt := 67) d_R_at_63 (by decide) ?_
          exact y_wk (loc2 := [some (.ref f0_), some (.int f1_), none, some (.int v3_), none]) ⟨rfl, ⟨rfl, ⟨rfl, trivial⟩⟩⟩ (Hj8 h6 v3_)
    · refine y_jn (C := fun (j9 : mH → Option (Int32 × mH)) => ∀ (h12 : mH), mY l Θ d M_R_at 54 [some (.ref f0_), some (.int f1_), some (.int v2_), some (.int v3_), none] [] h12 (tR vI) (j9 h12)) (fun h12 => ?_) (fun j11 Hj11 => ?_)
      · refine y_iconst (v := (J 0)) d_R_at_54 rfl ?_
        exact Hj5 h12 (J 0)
      · refine y_if_eq (tgt := 54) d_R_at_19 (by decide) ?_ ?_
        · exact Hj11 h3
        · refine y_iload_n d_R_at_22 rfl ?_
          refine y_aload_n d_R_at_23 rfl ?_
          refine y_iload_n d_R_at_24 rfl ?_
          refine y_iconst (v := (J 4)) d_R_at_25 rfl ?_
          refine y_gO (fun fs1 g1 => y_cI (c_vi (rest := [.int f1_]) d_R_at_26 k_R_of s_R_67 (Or.inl ⟨_, _, _, g1, rfl, rfl⟩) rfl rfl (Nat.le_of_ble_eq_true rfl) (Nat.le_trans (Nat.le_of_ble_eq_true rfl : 2 + 1 ≤ 4) hD) (S_R_of hfl (Nat.le_refl _) h3 f0_ v3_ (J 4))) (fun v14 h13 => ?_))
          refine y_aload_n d_R_at_29 rfl ?_
          refine y_iload_n d_R_at_30 rfl ?_
          refine y_iconst (v := (J 4)) d_R_at_31 rfl ?_
          refine y_gO (fun fs1 g1 => y_cI (c_vi (rest := [.int v14, .int f1_]) d_R_at_32 k_R_of s_R_67 (Or.inl ⟨_, _, _, g1, rfl, rfl⟩) rfl rfl (Nat.le_of_ble_eq_true rfl) (Nat.le_trans (Nat.le_of_ble_eq_true rfl : 2 + 1 ≤ 4) hD) (S_R_of hfl (Nat.le_refl _) h13 f0_ v3_ (J 4))) (fun v16 h15 => ?_))
          refine y_aload_n d_R_at_35 rfl ?_
          refine y_iload_n d_R_at_36 rfl ?_
          refine y_iconst (v := (J 1)) d_R_at_37 rfl ?_
          refine y_gO (fun fs1 g1 => y_cI (c_vi (rest := [.int v16, .int v14, .int f1_]) d_R_at_38 k_R_of s_R_67 (Or.inl ⟨_, _, _, g1, rfl, rfl⟩) rfl rfl (Nat.le_of_ble_eq_true rfl) (Nat.le_trans (Nat.le_of_ble_eq_true rfl : 2 + 1 ≤ 4) hD) (S_R_of hfl (Nat.le_refl _) h15 f0_ v3_ (J 1))) (fun v18 h17 => ?_))
          refine y_iadd (v := (v16 + v18)) d_R_at_41 rfl ?_
          refine y_iconst (v := (J 1)) d_R_at_42 rfl ?_
          refine y_isub (v := ((v16 + v18) - (J 1))) d_R_at_43 rfl ?_
          refine y_cI (c_st (rest := []) d_R_at_44 k_R_isIn s_R_83 rfl rfl (Nat.le_of_ble_eq_true rfl) (Nat.le_trans (Nat.le_of_ble_eq_true rfl : 1 + 1 ≤ 4) hD) (S_R_isIn hfl (Nat.le_refl _) h17 f1_ v14 ((v16 + v18) - (J 1)))) (fun v20 h19 => ?_)
          refine y_if_eq (tgt := 54) d_R_at_47 (by decide) ?_ ?_
          · exact Hj11 h19
          · refine y_iconst (v := (J 1)) d_R_at_50 rfl ?_
            refine y_goto (tgt := 55) d_R_at_51 (by decide) ?_
            exact Hj5 h19 (J 1)
theorem S_R_at_4 (hfl : HF l Θ) (hD : 4 ≤ d) {K74 : mH → Int32 → Option (Int32 × mH)} {f0_ : Nat} {f1_ : Int32}  (hK74 : ∀ (h : mH) (v2_ : Int32), mY l Θ d M_R_at 74 [none, none, some (.int v2_), none, none] [] h (tR vI) (K74 h v2_)) : ∀ (n : Nat) (h : mH) (v2_ : Int32) (v3_ : Int32), mY l Θ d M_R_at 4 [some (.ref f0_), some (.int f1_), some (.int v2_), some (.int v3_), none] [] h (tR vI) (P_R_at_4 Θ N K74 f0_ f1_ n h v2_ v3_) :=
  fun n => lp_all (C := fun (rc : mH → Int32 → Int32 → Option (Int32 × mH)) => ∀ (h : mH) (v2_ : Int32) (v3_ : Int32), mY l Θ d M_R_at 4 [some (.ref f0_), some (.int f1_), some (.int v2_), some (.int v3_), none] [] h (tR vI) (rc h v2_ v3_)) (fun _ _ _ => y_none) (fun rc ih => SB_R_at_4 hfl hD hK74 rc ih) n
theorem S_R_at (hfl : HF l Θ) (hD : 4 ≤ d) (h : mH) (a0 : Nat) (a1 : Int32) : mMs l Θ d M_R_at [.ref a0, .int a1] h (tR vI) (P_R_at Θ N h a0 a1) := by
  refine mMs.of hfl (by decide +kernel) rfl (Nat.le_of_ble_eq_true rfl) (loc := [some (.ref a0), some (.int a1), none, none, none]) rfl ?_
  unfold P_R_at
  refine y_iconst (v := (J (-1))) d_R_at_0 rfl ?_
  refine y_istore_n (loc2 := [some (.ref a0), some (.int a1), some (.int (J (-1))), none, none]) d_R_at_1 (Nat.le_of_ble_eq_true rfl) rfl rfl ?_
  refine y_iconst (v := (J 0)) d_R_at_2 rfl ?_
  refine y_istore_n (loc2 := [some (.ref a0), some (.int a1), some (.int (J (-1))), some (.int (J 0)), none]) d_R_at_3 (Nat.le_of_ble_eq_true rfl) rfl rfl ?_
  refine S_R_at_4 hfl hD (fun h21 u22 => ?_) N h (J (-1)) (J 0)
  refine y_iload_n d_R_at_74 rfl ?_
  exact y_retI d_R_at_75 rfl rfl
noncomputable def B_R_isFree_5 (Θ : mW) (N : Nat) (K39 : mH → Int32 → Option (Int32 × mH)) (f0_ : Nat) (f1_ : Int32) (f2_ : Int32) (rc : mH → Int32 → Int32 → Option (Int32 × mH)) (h : mH) (v3_ : Int32) (v4_ : Int32) : Option (Int32 × mH) :=
  (if (f1_ + f2_) ≤ v4_ then (K39 h v3_) else (jn (fun (h2 : mH) (s3 : Int32) => (rc h2 s3 (v4_ + (J 1)))) (fun j1 => (jn (fun (h5 : mH) => (j1 h5 (J 0))) (fun j4 => (if v3_ = 0 then (j4 h) else (gO Θ h 9 f0_ (bc (P_R_at Θ N h f0_ v4_) (fun v7 h6 => (if v7 = (J (-1)) then (j1 h6 (J 1)) else (j4 h6)))))))))))
noncomputable def P_R_isFree_5 (Θ : mW) (N : Nat) (K39 : mH → Int32 → Option (Int32 × mH)) (f0_ : Nat) (f1_ : Int32) (f2_ : Int32) : Nat → mH → Int32 → Int32 → Option (Int32 × mH) :=
  lp (fun _ _ _ => none) (B_R_isFree_5 Θ N K39 f0_ f1_ f2_)
noncomputable def P_R_isFree (Θ : mW) (N : Nat) (h : mH) (a0 : Nat) (a1 : Int32) (a2 : Int32) : Option (Int32 × mH) :=
  (P_R_isFree_5 Θ N (fun h8 u9 => (if u9 = J 0 ∨ u9 = J 1 then some (u9, h8) else none)) a0 a1 a2 N h (J 1) a1)
theorem SB_R_isFree_5 (hfl : HF l Θ) (hD : 5 ≤ d) {K39 : mH → Int32 → Option (Int32 × mH)} {f0_ : Nat} {f1_ : Int32} {f2_ : Int32}  (hK39 : ∀ (h : mH) (v3_ : Int32), mY l Θ d M_R_isFree 39 [none, none, none, some (.int v3_), none] [] h (tR vI) (K39 h v3_)) (rc : mH → Int32 → Int32 → Option (Int32 × mH)) (ih : ∀ (h : mH) (v3_ : Int32) (v4_ : Int32), mY l Θ d M_R_isFree 5 [some (.ref f0_), some (.int f1_), some (.int f2_), some (.int v3_), some (.int v4_)] [] h (tR vI) (rc h v3_ v4_)) : ∀ (h : mH) (v3_ : Int32) (v4_ : Int32), mY l Θ d M_R_isFree 5 [some (.ref f0_), some (.int f1_), some (.int f2_), some (.int v3_), some (.int v4_)] [] h (tR vI) (B_R_isFree_5 Θ N K39 f0_ f1_ f2_ rc h v3_ v4_) := by
  intro h v3_ v4_
  unfold B_R_isFree_5
  refine y_iload d_R_isFree_5 rfl ?_
  refine y_iload_n d_R_isFree_7 rfl ?_
  refine y_iload_n d_R_isFree_8 rfl ?_
  refine y_iadd (v := (f1_ + f2_)) d_R_isFree_9 rfl ?_
  refine y_icmp_ge (tgt := 39) d_R_isFree_10 (by decide) ?_ ?_
  · exact y_wk (loc2 := [none, none, none, some (.int v3_), none]) ⟨rfl, trivial⟩ (hK39 h v3_)
  · refine y_iload_n d_R_isFree_13 rfl ?_
    refine y_jn (C := fun (j9 : mH → Int32 → Option (Int32 × mH)) => ∀ (h2 : mH) (s3 : Int32), mY l Θ d M_R_isFree 32 [some (.ref f0_), some (.int f1_), some (.int f2_), none, some (.int v4_)] [.int s3] h2 (tR vI) (j9 h2 s3)) (fun h2 s3 => ?_) (fun j1 Hj1 => ?_)
    · refine y_istore_n (loc2 := [some (.ref f0_), some (.int f1_), some (.int f2_), some (.int s3), some (.int v4_)]) d_R_isFree_32 (Nat.le_of_ble_eq_true rfl) rfl rfl ?_
      refine y_iinc (v := (v4_ + (J 1))) (loc2 := [some (.ref f0_), some (.int f1_), some (.int f2_), some (.int s3), some (.int (v4_ + (J 1)))]) d_R_isFree_33 rfl rfl (Nat.le_of_ble_eq_true rfl) rfl rfl ?_
      refine y_goto (tgt := 5) d_R_isFree_36 (by decide) ?_
      exact ih h2 s3 (v4_ + (J 1))
    · refine y_jn (C := fun (j9 : mH → Option (Int32 × mH)) => ∀ (h5 : mH), mY l Θ d M_R_isFree 31 [some (.ref f0_), some (.int f1_), some (.int f2_), none, some (.int v4_)] [] h5 (tR vI) (j9 h5)) (fun h5 => ?_) (fun j4 Hj4 => ?_)
      · refine y_iconst (v := (J 0)) d_R_isFree_31 rfl ?_
        exact Hj1 h5 (J 0)
      · refine y_if_eq (tgt := 31) d_R_isFree_14 (by decide) ?_ ?_
        · exact y_wk (loc2 := [some (.ref f0_), some (.int f1_), some (.int f2_), none, some (.int v4_)]) ⟨rfl, ⟨rfl, ⟨rfl, ⟨rfl, trivial⟩⟩⟩⟩ (Hj4 h)
        · refine y_aload_n d_R_isFree_17 rfl ?_
          refine y_iload d_R_isFree_18 rfl ?_
          refine y_gO (fun fs1 g1 => y_cI (c_vi (rest := []) d_R_isFree_20 k_R_at s_R_87 (Or.inl ⟨_, _, _, g1, rfl, rfl⟩) rfl rfl (Nat.le_of_ble_eq_true rfl) (Nat.le_trans (Nat.le_of_ble_eq_true rfl : 4 + 1 ≤ 5) hD) (S_R_at hfl (Nat.le_refl _) h f0_ v4_)) (fun v7 h6 => ?_))
          refine y_iconst (v := (J (-1))) d_R_isFree_23 rfl ?_
          refine y_icmp_ne (tgt := 31) d_R_isFree_24 (by decide) ?_ ?_
          · exact y_wk (loc2 := [some (.ref f0_), some (.int f1_), some (.int f2_), none, some (.int v4_)]) ⟨rfl, ⟨rfl, ⟨rfl, ⟨rfl, trivial⟩⟩⟩⟩ (Hj4 h6)
          · refine y_iconst (v := (J 1)) d_R_isFree_27 rfl ?_
            refine y_goto (tgt := 32) d_R_isFree_28 (by decide) ?_
            exact y_wk (loc2 := [some (.ref f0_), some (.int f1_), some (.int f2_), none, some (.int v4_)]) ⟨rfl, ⟨rfl, ⟨rfl, ⟨rfl, trivial⟩⟩⟩⟩ (Hj1 h6 (J 1))
theorem S_R_isFree_5 (hfl : HF l Θ) (hD : 5 ≤ d) {K39 : mH → Int32 → Option (Int32 × mH)} {f0_ : Nat} {f1_ : Int32} {f2_ : Int32}  (hK39 : ∀ (h : mH) (v3_ : Int32), mY l Θ d M_R_isFree 39 [none, none, none, some (.int v3_), none] [] h (tR vI) (K39 h v3_)) : ∀ (n : Nat) (h : mH) (v3_ : Int32) (v4_ : Int32), mY l Θ d M_R_isFree 5 [some (.ref f0_), some (.int f1_), some (.int f2_), some (.int v3_), some (.int v4_)] [] h (tR vI) (P_R_isFree_5 Θ N K39 f0_ f1_ f2_ n h v3_ v4_) :=
  fun n => lp_all (C := fun (rc : mH → Int32 → Int32 → Option (Int32 × mH)) => ∀ (h : mH) (v3_ : Int32) (v4_ : Int32), mY l Θ d M_R_isFree 5 [some (.ref f0_), some (.int f1_), some (.int f2_), some (.int v3_), some (.int v4_)] [] h (tR vI) (rc h v3_ v4_)) (fun _ _ _ => y_none) (fun rc ih => SB_R_isFree_5 hfl hD hK39 rc ih) n
theorem S_R_isFree (hfl : HF l Θ) (hD : 5 ≤ d) (h : mH) (a0 : Nat) (a1 : Int32) (a2 : Int32) : mMs l Θ d M_R_isFree [.ref a0, .int a1, .int a2] h (tR vI) (P_R_isFree Θ N h a0 a1 a2) := by
  refine mMs.of hfl (by decide +kernel) rfl (Nat.le_of_ble_eq_true rfl) (loc := [some (.ref a0), some (.int a1), some (.int a2), none, none]) rfl ?_
  unfold P_R_isFree
  refine y_iconst (v := (J 1)) d_R_isFree_0 rfl ?_
  refine y_istore_n (loc2 := [some (.ref a0), some (.int a1), some (.int a2), some (.int (J 1)), none]) d_R_isFree_1 (Nat.le_of_ble_eq_true rfl) rfl rfl ?_
  refine y_iload_n d_R_isFree_2 rfl ?_
  refine y_istore (loc2 := [some (.ref a0), some (.int a1), some (.int a2), some (.int (J 1)), some (.int a1)]) d_R_isFree_3 (Nat.le_of_ble_eq_true rfl) rfl rfl ?_
  refine S_R_isFree_5 hfl hD (fun h8 u9 => ?_) N h (J 1) a1
  refine y_iload_n d_R_isFree_39 rfl ?_
  exact y_gZ (fun hn _ => y_retI d_R_isFree_40 rfl hn)
noncomputable def P_R_isMetre (Θ : mW) (N : Nat) (h : mH) (a0 : Int32) : Option (Int32 × mH) :=
  (bc (P_R_isIn Θ N h a0 (J 0) (J 59)) (fun v2 h1 => (if v2 = J 0 ∨ v2 = J 1 then some (v2, h1) else none)))
theorem S_R_isMetre (hfl : HF l Θ) (hD : 2 ≤ d) (h : mH) (a0 : Int32) : mMs l Θ d M_R_isMetre [.int a0] h (tR vI) (P_R_isMetre Θ N h a0) := by
  refine mMs.of hfl (by decide +kernel) rfl (Nat.le_of_ble_eq_true rfl) (loc := [some (.int a0)]) rfl ?_
  unfold P_R_isMetre
  refine y_iload_n d_R_isMetre_0 rfl ?_
  refine y_iconst (v := (J 0)) d_R_isMetre_1 rfl ?_
  refine y_bipush (v := (J 59)) d_R_isMetre_2 (by decide +kernel) ?_
  refine y_cI (c_st (rest := []) d_R_isMetre_4 k_R_isIn s_R_83 rfl rfl (Nat.le_of_ble_eq_true rfl) (Nat.le_trans (Nat.le_of_ble_eq_true rfl : 1 + 1 ≤ 2) hD) (S_R_isIn hfl (Nat.le_refl _) h a0 (J 0) (J 59))) (fun v2 h1 => ?_)
  exact y_gZ (fun hn _ => y_retI d_R_isMetre_7 rfl hn)
noncomputable def P_R_refuses (Θ : mW) (N : Nat) (h : mH) (a0 : Nat) (a1 : Int32) (a2 : Int32) : Option (Unit × mH) :=
  (bo (rI Θ h 9 a0 13) (fun v1 => (if v1 = 0 then (if a2 = 0 then (some ((), h)) else (bo (wF Θ h 9 a0 13 (.int a1)) (fun h2 => (bo (wF Θ h2 9 a0 8 (.int a2)) (fun h3 => (some ((), h3))))))) else (some ((), h)))))
theorem S_R_refuses (hfl : HF l Θ) (hD : 1 ≤ d) (h : mH) (a0 : Nat) (a1 : Int32) (a2 : Int32) : mMs l Θ d M_R_refuses [.ref a0, .int a1, .int a2] h (tR vU) (P_R_refuses Θ N h a0 a1 a2) := by
  refine mMs.of hfl (by decide +kernel) rfl (Nat.le_of_ble_eq_true rfl) (loc := [some (.ref a0), some (.int a1), some (.int a2)]) rfl ?_
  unfold P_R_refuses
  refine y_aload_n d_R_refuses_0 rfl ?_
  refine y_getI d_R_refuses_1 f_R_42 (fun v1 => ?_)
  refine y_if_ne (tgt := 21) d_R_refuses_4 (by decide) ?_ ?_
  · exact y_retU d_R_refuses_21 rfl
  · refine y_iload_n d_R_refuses_7 rfl ?_
    refine y_if_eq (tgt := 21) d_R_refuses_8 (by decide) ?_ ?_
    · exact y_retU d_R_refuses_21 rfl
    · refine y_aload_n d_R_refuses_11 rfl ?_
      refine y_iload_n d_R_refuses_12 rfl ?_
      refine y_put d_R_refuses_13 p_R_42 rfl rfl (fun h2 => ?_)
      refine y_aload_n d_R_refuses_16 rfl ?_
      refine y_iload_n d_R_refuses_17 rfl ?_
      refine y_put d_R_refuses_18 p_R_110 rfl rfl (fun h3 => ?_)
      exact y_retU d_R_refuses_21 rfl
noncomputable def P_R_enters (Θ : mW) (N : Nat) (h : mH) (a0 : Nat) (a1 : Int32) (a2 : Int32) : Option (Int32 × mH) :=
  (gO Θ h 9 a0 (bc (P_R_find Θ N h a0 a1) (fun v2 h1 => (gO Θ h1 9 a0 (bc (P_R_of Θ N h1 a0 v2 (J 1)) (fun v4 h3 => (bc (P_R_isMetre Θ N h3 a2) (fun v6 h5 => (jn (fun (h8 : mH) (s9 : Int32) => (jn (fun (h11 : mH) (s12 : Int32) => (gO Θ h11 9 a0 (bc (P_R_isDocked Θ N h11 a0 v2) (fun v14 h13 => (jn (fun (h16 : mH) (s17 : Int32) => (gO Θ h16 9 a0 (bc (P_R_holds Θ N h16 a0 s12 s9 s17 (J 1)) (fun v19 h18 => (jn (fun (h21 : mH) => (bo (rI Θ h21 9 a0 13) (fun v22 => (if v22 = 0 then (bo (rA Θ h21 9 a0 0) (fun v23 => (bc (P_R_place Θ N h21 v2 (J 4)) (fun v25 h24 => (bo (aW Θ h24 0 v23 v25 a2) (fun h26 => (bo (rA Θ h26 9 a0 0) (fun v27 => (bc (P_R_place Θ N h26 v2 (J 5)) (fun v29 h28 => (bo (aW Θ h28 0 v27 v29 (J 0)) (fun h30 => (gO Θ h30 9 a0 (bc (P_R_docked Θ N h30 a0) (fun v32 h31 => (some (v32, h31))))))))))))))))) else (some ((J 0), h21)))))) (fun j20 => (if v19 = 0 then (j20 h18) else (bo (rA Θ h18 9 a0 0) (fun v33 => (bo (aR Θ h18 0 v33 (J 1)) (fun v34 => (gO Θ h18 9 a0 (bc (P_R_of Θ N h18 a0 v2 (J 2)) (fun v36 h35 => (jn (fun (h38 : mH) (s39 : Int32) => (gO Θ h38 9 a0 (bc (P_R_refuses Θ N h38 a0 (J 4) s39) (fun v41 h40 => (j20 h40))))) (fun j37 => (if (v36 + (J 2)) ≤ v34 then (gO Θ h35 9 a0 (bc (P_R_isFree Θ N h35 a0 a2 v4) (fun v43 h42 => (if v43 = 0 then (j37 h42 (J 2)) else (j37 h42 (J 0)))))) else (j37 h35 (J 1))))))))))))))))))) (fun j15 => (jn (fun (h45 : mH) => (j15 h45 (J 0))) (fun j44 => (if v14 = 0 then (bo (rA Θ h13 9 a0 0) (fun v46 => (bo (aR Θ h13 0 v46 (J 2)) (fun v47 => (if v47 = (J 1) then (j15 h13 (J 1)) else (j44 h13)))))) else (j44 h13)))))))))) (fun j10 => (if v2 = (J (-1)) then (j10 h8 (J 0)) else (j10 h8 (J 1)))))) (fun j7 => (jn (fun (h49 : mH) => (j7 h49 (J 0))) (fun j48 => (if v6 = 0 then (j48 h5) else (if ((J 60) - v4) < a2 then (j48 h5) else (j7 h5 (J 1))))))))))))))))
theorem S_R_enters (hfl : HF l Θ) (hD : 6 ≤ d) (h : mH) (a0 : Nat) (a1 : Int32) (a2 : Int32) : mMs l Θ d M_R_enters [.ref a0, .int a1, .int a2] h (tR vI) (P_R_enters Θ N h a0 a1 a2) := by
  refine mMs.of hfl (by decide +kernel) rfl (Nat.le_of_ble_eq_true rfl) (loc := [some (.ref a0), some (.int a1), some (.int a2), none, none, none]) rfl ?_
  unfold P_R_enters
  refine y_aload_n d_R_enters_0 rfl ?_
  refine y_iload_n d_R_enters_1 rfl ?_
  refine y_gO (fun fs1 g1 => y_cI (c_vi (rest := []) d_R_enters_2 k_R_find s_R_104 (Or.inl ⟨_, _, _, g1, rfl, rfl⟩) rfl rfl (Nat.le_of_ble_eq_true rfl) (Nat.le_trans (Nat.le_of_ble_eq_true rfl : 3 + 1 ≤ 6) hD) (S_R_find hfl (Nat.le_refl _) h a0 a1)) (fun v2 h1 => ?_))
  refine y_istore_n (loc2 := [some (.ref a0), some (.int a1), some (.int a2), some (.int v2), none, none]) d_R_enters_5 (Nat.le_of_ble_eq_true rfl) rfl rfl ?_
  refine y_aload_n d_R_enters_6 rfl ?_
  refine y_iload_n d_R_enters_7 rfl ?_
  refine y_iconst (v := (J 1)) d_R_enters_8 rfl ?_
  refine y_gO (fun fs1 g1 => y_cI (c_vi (rest := []) d_R_enters_9 k_R_of s_R_67 (Or.inl ⟨_, _, _, g1, rfl, rfl⟩) rfl rfl (Nat.le_of_ble_eq_true rfl) (Nat.le_trans (Nat.le_of_ble_eq_true rfl : 2 + 1 ≤ 6) hD) (S_R_of hfl (Nat.le_refl _) h1 a0 v2 (J 1))) (fun v4 h3 => ?_))
  refine y_istore (loc2 := [some (.ref a0), some (.int a1), some (.int a2), some (.int v2), some (.int v4), none]) d_R_enters_12 (Nat.le_of_ble_eq_true rfl) rfl rfl ?_
  refine y_iload_n d_R_enters_14 rfl ?_
  refine y_cI (c_st (rest := []) d_R_enters_15 k_R_isMetre s_R_91 rfl rfl (Nat.le_of_ble_eq_true rfl) (Nat.le_trans (Nat.le_of_ble_eq_true rfl : 2 + 1 ≤ 6) hD) (S_R_isMetre hfl (Nat.le_refl _) h3 a2)) (fun v6 h5 => ?_)
  refine y_jn (C := fun (j9 : mH → Int32 → Option (Int32 × mH)) => ∀ (h8 : mH) (s9 : Int32), mY l Θ d M_R_enters 35 [some (.ref a0), none, some (.int a2), some (.int v2), some (.int v4), none] [.int s9] h8 (tR vI) (j9 h8 s9)) (fun h8 s9 => ?_) (fun j7 Hj7 => ?_)
  · refine y_istore (loc2 := [some (.ref a0), none, some (.int a2), some (.int v2), some (.int v4), some (.int s9)]) d_R_enters_35 (Nat.le_of_ble_eq_true rfl) rfl rfl ?_
    refine y_aload_n d_R_enters_37 rfl ?_
    refine y_iload_n d_R_enters_38 rfl ?_
    refine y_iconst (v := (J (-1))) d_R_enters_39 rfl ?_
    refine y_jn (C := fun (j9 : mH → Int32 → Option (Int32 × mH)) => ∀ (h11 : mH) (s12 : Int32), mY l Θ d M_R_enters 48 [some (.ref a0), none, some (.int a2), some (.int v2), some (.int v4), some (.int s9)] [.int s12, .ref a0] h11 (tR vI) (j9 h11 s12)) (fun h11 s12 => ?_) (fun j10 Hj10 => ?_)
    · refine y_iload d_R_enters_48 rfl ?_
      refine y_aload_n d_R_enters_50 rfl ?_
      refine y_iload_n d_R_enters_51 rfl ?_
      refine y_gO (fun fs1 g1 => y_cI (c_vi (rest := [.int s9, .int s12, .ref a0]) d_R_enters_52 k_R_isDocked s_R_79 (Or.inl ⟨_, _, _, g1, rfl, rfl⟩) rfl rfl (Nat.le_of_ble_eq_true rfl) (Nat.le_trans (Nat.le_of_ble_eq_true rfl : 3 + 1 ≤ 6) hD) (S_R_isDocked hfl (Nat.le_refl _) h11 a0 v2)) (fun v14 h13 => ?_))
      refine y_jn (C := fun (j9 : mH → Int32 → Option (Int32 × mH)) => ∀ (h16 : mH) (s17 : Int32), mY l Θ d M_R_enters 73 [some (.ref a0), none, some (.int a2), some (.int v2), some (.int v4), none] [.int s17, .int s9, .int s12, .ref a0] h16 (tR vI) (j9 h16 s17)) (fun h16 s17 => ?_) (fun j15 Hj15 => ?_)
      · refine y_iconst (v := (J 1)) d_R_enters_73 rfl ?_
        refine y_gO (fun fs1 g1 => y_cI (c_vi (rest := []) d_R_enters_74 k_R_holds s_R_45 (Or.inl ⟨_, _, _, g1, rfl, rfl⟩) rfl rfl (Nat.le_of_ble_eq_true rfl) (Nat.le_trans (Nat.le_of_ble_eq_true rfl : 1 + 1 ≤ 6) hD) (S_R_holds hfl (Nat.le_refl _) h16 a0 s12 s9 s17 (J 1))) (fun v19 h18 => ?_))
        refine y_jn (C := fun (j9 : mH → Option (Int32 × mH)) => ∀ (h21 : mH), mY l Θ d M_R_enters 121 [some (.ref a0), none, some (.int a2), some (.int v2), none, none] [] h21 (tR vI) (j9 h21)) (fun h21 => ?_) (fun j20 Hj20 => ?_)
        · refine y_aload_n d_R_enters_121 rfl ?_
          refine y_getI d_R_enters_122 f_R_42 (fun v22 => ?_)
          refine y_if_eq (tgt := 130) d_R_enters_125 (by decide) ?_ ?_
          · refine y_aload_n d_R_enters_130 rfl ?_
            refine y_getA d_R_enters_131 f_R_9 (fun v23 => ?_)
            refine y_iload_n d_R_enters_134 rfl ?_
            refine y_iconst (v := (J 4)) d_R_enters_135 rfl ?_
            refine y_cI (c_st (rest := [.ref v23]) d_R_enters_136 k_R_place s_R_76 rfl rfl (Nat.le_of_ble_eq_true rfl) (Nat.le_trans (Nat.le_of_ble_eq_true rfl : 1 + 1 ≤ 6) hD) (S_R_place hfl (Nat.le_refl _) h21 v2 (J 4))) (fun v25 h24 => ?_)
            refine y_iload_n d_R_enters_139 rfl ?_
            refine y_iast d_R_enters_140 (fun h26 => ?_)
            refine y_aload_n d_R_enters_141 rfl ?_
            refine y_getA d_R_enters_142 f_R_9 (fun v27 => ?_)
            refine y_iload_n d_R_enters_145 rfl ?_
            refine y_iconst (v := (J 5)) d_R_enters_146 rfl ?_
            refine y_cI (c_st (rest := [.ref v27]) d_R_enters_147 k_R_place s_R_76 rfl rfl (Nat.le_of_ble_eq_true rfl) (Nat.le_trans (Nat.le_of_ble_eq_true rfl : 1 + 1 ≤ 6) hD) (S_R_place hfl (Nat.le_refl _) h26 v2 (J 5))) (fun v29 h28 => ?_)
            refine y_iconst (v := (J 0)) d_R_enters_150 rfl ?_
            refine y_iast d_R_enters_151 (fun h30 => ?_)
            refine y_aload_n d_R_enters_152 rfl ?_
            refine y_gO (fun fs1 g1 => y_cI (c_vi (rest := []) d_R_enters_153 k_R_docked s_R_121 (Or.inl ⟨_, _, _, g1, rfl, rfl⟩) rfl rfl (Nat.le_of_ble_eq_true rfl) (Nat.le_trans (Nat.le_of_ble_eq_true rfl : 4 + 1 ≤ 6) hD) (S_R_docked hfl (Nat.le_refl _) h30 a0)) (fun v32 h31 => ?_))
            exact y_retI d_R_enters_156 rfl rfl
          · refine y_iconst (v := (J 0)) d_R_enters_128 rfl ?_
            exact y_retI d_R_enters_129 rfl rfl
        · refine y_if_eq (tgt := 121) d_R_enters_77 (by decide) ?_ ?_
          · exact y_wk (loc2 := [some (.ref a0), none, some (.int a2), some (.int v2), none, none]) ⟨rfl, ⟨rfl, ⟨rfl, trivial⟩⟩⟩ (Hj20 h18)
          · refine y_aload_n d_R_enters_80 rfl ?_
            refine y_iconst (v := (J 4)) d_R_enters_81 rfl ?_
            refine y_aload_n d_R_enters_82 rfl ?_
            refine y_getA d_R_enters_83 f_R_9 (fun v33 => ?_)
            refine y_iconst (v := (J 1)) d_R_enters_86 rfl ?_
            refine y_iald d_R_enters_87 (fun v34 => ?_)
            refine y_aload_n d_R_enters_88 rfl ?_
            refine y_iload_n d_R_enters_89 rfl ?_
            refine y_iconst (v := (J 2)) d_R_enters_90 rfl ?_
            refine y_gO (fun fs1 g1 => y_cI (c_vi (rest := [.int v34, .int (J 4), .ref a0]) d_R_enters_91 k_R_of s_R_67 (Or.inl ⟨_, _, _, g1, rfl, rfl⟩) rfl rfl (Nat.le_of_ble_eq_true rfl) (Nat.le_trans (Nat.le_of_ble_eq_true rfl : 2 + 1 ≤ 6) hD) (S_R_of hfl (Nat.le_refl _) h18 a0 v2 (J 2))) (fun v36 h35 => ?_))
            refine y_iconst (v := (J 2)) d_R_enters_94 rfl ?_
            refine y_iadd (v := (v36 + (J 2))) d_R_enters_95 rfl ?_
            refine y_jn (C := fun (j9 : mH → Int32 → Option (Int32 × mH)) => ∀ (h38 : mH) (s39 : Int32), mY l Θ d M_R_enters 118 [some (.ref a0), none, some (.int a2), some (.int v2), none, none] [.int s39, .int (J 4), .ref a0] h38 (tR vI) (j9 h38 s39)) (fun h38 s39 => ?_) (fun j37 Hj37 => ?_)
            · refine y_gO (fun fs1 g1 => y_cU (c_vi (rest := []) d_R_enters_118 k_R_refuses s_R_117 (Or.inl ⟨_, _, _, g1, rfl, rfl⟩) rfl rfl (Nat.le_of_ble_eq_true rfl) (Nat.le_trans (Nat.le_of_ble_eq_true rfl : 1 + 1 ≤ 6) hD) (S_R_refuses hfl (Nat.le_refl _) h38 a0 (J 4) s39)) (fun v41 h40 => ?_))
              exact Hj20 h40
            · refine y_icmp_ge (tgt := 103) d_R_enters_96 (by decide) ?_ ?_
              · refine y_aload_n d_R_enters_103 rfl ?_
                refine y_iload_n d_R_enters_104 rfl ?_
                refine y_iload d_R_enters_105 rfl ?_
                refine y_gO (fun fs1 g1 => y_cI (c_vi (rest := [.int (J 4), .ref a0]) d_R_enters_107 k_R_isFree s_R_113 (Or.inl ⟨_, _, _, g1, rfl, rfl⟩) rfl rfl (Nat.le_of_ble_eq_true rfl) (Nat.le_trans (Nat.le_of_ble_eq_true rfl : 5 + 1 ≤ 6) hD) (S_R_isFree hfl (Nat.le_refl _) h35 a0 a2 v4)) (fun v43 h42 => ?_))
                refine y_if_ne (tgt := 117) d_R_enters_110 (by decide) ?_ ?_
                · refine y_iconst (v := (J 0)) d_R_enters_117 rfl ?_
                  exact y_wk (loc2 := [some (.ref a0), none, some (.int a2), some (.int v2), none, none]) ⟨rfl, ⟨rfl, ⟨rfl, trivial⟩⟩⟩ (Hj37 h42 (J 0))
                · refine y_iconst (v := (J 2)) d_R_enters_113 rfl ?_
                  refine y_goto (tgt := 118) d_R_enters_114 (by decide) ?_
                  exact y_wk (loc2 := [some (.ref a0), none, some (.int a2), some (.int v2), none, none]) ⟨rfl, ⟨rfl, ⟨rfl, trivial⟩⟩⟩ (Hj37 h42 (J 2))
              · refine y_iconst (v := (J 1)) d_R_enters_99 rfl ?_
                refine y_goto (tgt := 118) d_R_enters_100 (by decide) ?_
                exact y_wk (loc2 := [some (.ref a0), none, some (.int a2), some (.int v2), none, none]) ⟨rfl, ⟨rfl, ⟨rfl, trivial⟩⟩⟩ (Hj37 h35 (J 1))
      · refine y_jn (C := fun (j9 : mH → Option (Int32 × mH)) => ∀ (h45 : mH), mY l Θ d M_R_enters 72 [some (.ref a0), none, some (.int a2), some (.int v2), some (.int v4), none] [.int s9, .int s12, .ref a0] h45 (tR vI) (j9 h45)) (fun h45 => ?_) (fun j44 Hj44 => ?_)
        · refine y_iconst (v := (J 0)) d_R_enters_72 rfl ?_
          exact Hj15 h45 (J 0)
        · refine y_if_ne (tgt := 72) d_R_enters_55 (by decide) ?_ ?_
          · exact y_wk (loc2 := [some (.ref a0), none, some (.int a2), some (.int v2), some (.int v4), none]) ⟨rfl, ⟨rfl, ⟨rfl, ⟨rfl, trivial⟩⟩⟩⟩ (Hj44 h13)
          · refine y_aload_n d_R_enters_58 rfl ?_
            refine y_getA d_R_enters_59 f_R_9 (fun v46 => ?_)
            refine y_iconst (v := (J 2)) d_R_enters_62 rfl ?_
            refine y_iald d_R_enters_63 (fun v47 => ?_)
            refine y_iconst (v := (J 1)) d_R_enters_64 rfl ?_
            refine y_icmp_ne (tgt := 72) d_R_enters_65 (by decide) ?_ ?_
            · exact y_wk (loc2 := [some (.ref a0), none, some (.int a2), some (.int v2), some (.int v4), none]) ⟨rfl, ⟨rfl, ⟨rfl, ⟨rfl, trivial⟩⟩⟩⟩ (Hj44 h13)
            · refine y_iconst (v := (J 1)) d_R_enters_68 rfl ?_
              refine y_goto (tgt := 73) d_R_enters_69 (by decide) ?_
              exact y_wk (loc2 := [some (.ref a0), none, some (.int a2), some (.int v2), some (.int v4), none]) ⟨rfl, ⟨rfl, ⟨rfl, ⟨rfl, trivial⟩⟩⟩⟩ (Hj15 h13 (J 1))
    · refine y_icmp_eq (tgt := 47) d_R_enters_40 (by decide) ?_ ?_
      · refine y_iconst (v := (J 0)) d_R_enters_47 rfl ?_
        exact Hj10 h8 (J 0)
      · refine y_iconst (v := (J 1)) d_R_enters_43 rfl ?_
        refine y_goto (tgt := 48) d_R_enters_44 (by decide) ?_
        exact Hj10 h8 (J 1)
  · refine y_jn (C := fun (j9 : mH → Option (Int32 × mH)) => ∀ (h49 : mH), mY l Θ d M_R_enters 34 [some (.ref a0), none, some (.int a2), some (.int v2), some (.int v4), none] [] h49 (tR vI) (j9 h49)) (fun h49 => ?_) (fun j48 Hj48 => ?_)
    · refine y_iconst (v := (J 0)) d_R_enters_34 rfl ?_
      exact Hj7 h49 (J 0)
    · refine y_if_eq (tgt := 34) d_R_enters_18 (by decide) ?_ ?_
      · exact y_wk (loc2 := [some (.ref a0), none, some (.int a2), some (.int v2), some (.int v4), none]) ⟨rfl, ⟨rfl, ⟨rfl, ⟨rfl, trivial⟩⟩⟩⟩ (Hj48 h5)
      · refine y_iload_n d_R_enters_21 rfl ?_
        refine y_bipush (v := (J 60)) d_R_enters_22 (by decide +kernel) ?_
        refine y_iload d_R_enters_24 rfl ?_
        refine y_isub (v := ((J 60) - v4)) d_R_enters_26 rfl ?_
        refine y_icmp_gt (tgt := 34) d_R_enters_27 (by decide) ?_ ?_
        · exact y_wk (loc2 := [some (.ref a0), none, some (.int a2), some (.int v2), some (.int v4), none]) ⟨rfl, ⟨rfl, ⟨rfl, ⟨rfl, trivial⟩⟩⟩⟩ (Hj48 h5)
        · refine y_iconst (v := (J 1)) d_R_enters_30 rfl ?_
          refine y_goto (tgt := 35) d_R_enters_31 (by decide) ?_
          exact y_wk (loc2 := [some (.ref a0), none, some (.int a2), some (.int v2), some (.int v4), none]) ⟨rfl, ⟨rfl, ⟨rfl, ⟨rfl, trivial⟩⟩⟩⟩ (Hj7 h5 (J 1))
noncomputable def P_R_enter (Θ : mW) (N : Nat) (h : mH) (a0 : Nat) (a1 : Int32) (a2 : Int32) : Option (Int32 × mH) :=
  (gO Θ h 9 a0 (bc (P_R_begins Θ N h a0) (fun v2 h1 => (gO Θ h1 9 a0 (bc (P_R_enters Θ N h1 a0 a1 a2) (fun v4 h3 => (gO Θ h3 9 a0 (bc (P_R_ends Θ N h3 a0 v4) (fun v6 h5 => (some (v6, h5)))))))))))
theorem S_R_enter (hfl : HF l Θ) (hD : 7 ≤ d) (h : mH) (a0 : Nat) (a1 : Int32) (a2 : Int32) : mMs l Θ d M_R_enter [.ref a0, .int a1, .int a2] h (tR vI) (P_R_enter Θ N h a0 a1 a2) := by
  refine mMs.of hfl (by decide +kernel) rfl (Nat.le_of_ble_eq_true rfl) (loc := [some (.ref a0), some (.int a1), some (.int a2)]) rfl ?_
  unfold P_R_enter
  refine y_aload_n d_R_enter_0 rfl ?_
  refine y_gO (fun fs1 g1 => y_cU (c_vi (rest := []) d_R_enter_1 k_R_begins s_R_94 (Or.inl ⟨_, _, _, g1, rfl, rfl⟩) rfl rfl (Nat.le_of_ble_eq_true rfl) (Nat.le_trans (Nat.le_of_ble_eq_true rfl : 2 + 1 ≤ 7) hD) (S_R_begins hfl (Nat.le_refl _) h a0)) (fun v2 h1 => ?_))
  refine y_aload_n d_R_enter_4 rfl ?_
  refine y_aload_n d_R_enter_5 rfl ?_
  refine y_iload_n d_R_enter_6 rfl ?_
  refine y_iload_n d_R_enter_7 rfl ?_
  refine y_gO (fun fs1 g1 => y_cI (c_vi (rest := [.ref a0]) d_R_enter_8 k_R_enters s_R_125 (Or.inl ⟨_, _, _, g1, rfl, rfl⟩) rfl rfl (Nat.le_of_ble_eq_true rfl) (Nat.le_trans (Nat.le_of_ble_eq_true rfl : 6 + 1 ≤ 7) hD) (S_R_enters hfl (Nat.le_refl _) h1 a0 a1 a2)) (fun v4 h3 => ?_))
  refine y_gO (fun fs1 g1 => y_cI (c_vi (rest := []) d_R_enter_11 k_R_ends s_R_101 (Or.inl ⟨_, _, _, g1, rfl, rfl⟩) rfl rfl (Nat.le_of_ble_eq_true rfl) (Nat.le_trans (Nat.le_of_ble_eq_true rfl : 3 + 1 ≤ 7) hD) (S_R_ends hfl (Nat.le_refl _) h3 a0 v4)) (fun v6 h5 => ?_))
  exact y_retI d_R_enter_14 rfl rfl
noncomputable def P_R_floats (Θ : mW) (N : Nat) (h : mH) (a0 : Nat) (a1 : Int32) : Option (Int32 × mH) :=
  (gO Θ h 9 a0 (bc (P_R_isDocked Θ N h a0 a1) (fun v2 h1 => (jn (fun (h4 : mH) => (some ((J 1), h4))) (fun j3 => (if v2 = 0 then (j3 h1) else (bo (rA Θ h1 9 a0 0) (fun v5 => (bo (aR Θ h1 0 v5 (J 1)) (fun v6 => (gO Θ h1 9 a0 (bc (P_R_of Θ N h1 a0 a1 (J 2)) (fun v8 h7 => (if v6 < v8 then (some ((J 0), h7)) else (j3 h7)))))))))))))))
theorem S_R_floats (hfl : HF l Θ) (hD : 4 ≤ d) (h : mH) (a0 : Nat) (a1 : Int32) : mMs l Θ d M_R_floats [.ref a0, .int a1] h (tR vI) (P_R_floats Θ N h a0 a1) := by
  refine mMs.of hfl (by decide +kernel) rfl (Nat.le_of_ble_eq_true rfl) (loc := [some (.ref a0), some (.int a1)]) rfl ?_
  unfold P_R_floats
  refine y_aload_n d_R_floats_0 rfl ?_
  refine y_iload_n d_R_floats_1 rfl ?_
  refine y_gO (fun fs1 g1 => y_cI (c_vi (rest := []) d_R_floats_2 k_R_isDocked s_R_79 (Or.inl ⟨_, _, _, g1, rfl, rfl⟩) rfl rfl (Nat.le_of_ble_eq_true rfl) (Nat.le_trans (Nat.le_of_ble_eq_true rfl : 3 + 1 ≤ 4) hD) (S_R_isDocked hfl (Nat.le_refl _) h a0 a1)) (fun v2 h1 => ?_))
  refine y_jn (C := fun (j9 : mH → Option (Int32 × mH)) => ∀ (h4 : mH), mY l Θ d M_R_floats 23 [none, none] [] h4 (tR vI) (j9 h4)) (fun h4 => ?_) (fun j3 Hj3 => ?_)
  · refine y_iconst (v := (J 1)) d_R_floats_23 rfl ?_
    refine y_goto (tgt := 28) d_R_floats_24 (by decide) ?_
    exact y_retI d_R_floats_28 rfl (by decide +kernel)
  · refine y_if_eq (tgt := 23) d_R_floats_5 (by decide) ?_ ?_
    · exact y_wk (loc2 := [none, none]) trivial (Hj3 h1)
    · refine y_aload_n d_R_floats_8 rfl ?_
      refine y_getA d_R_floats_9 f_R_9 (fun v5 => ?_)
      refine y_iconst (v := (J 1)) d_R_floats_12 rfl ?_
      refine y_iald d_R_floats_13 (fun v6 => ?_)
      refine y_aload_n d_R_floats_14 rfl ?_
      refine y_iload_n d_R_floats_15 rfl ?_
      refine y_iconst (v := (J 2)) d_R_floats_16 rfl ?_
      refine y_gO (fun fs1 g1 => y_cI (c_vi (rest := [.int v6]) d_R_floats_17 k_R_of s_R_67 (Or.inl ⟨_, _, _, g1, rfl, rfl⟩) rfl rfl (Nat.le_of_ble_eq_true rfl) (Nat.le_trans (Nat.le_of_ble_eq_true rfl : 2 + 1 ≤ 4) hD) (S_R_of hfl (Nat.le_refl _) h1 a0 a1 (J 2))) (fun v8 h7 => ?_))
      refine y_icmp_lt (tgt := 27) d_R_floats_20 (by decide) ?_ ?_
      · refine y_iconst (v := (J 0)) d_R_floats_27 rfl ?_
        exact y_retI d_R_floats_28 rfl (by decide +kernel)
      · exact y_wk (loc2 := [none, none]) trivial (Hj3 h7)
noncomputable def P_R_leaves (Θ : mW) (N : Nat) (h : mH) (a0 : Nat) (a1 : Int32) : Option (Int32 × mH) :=
  (gO Θ h 9 a0 (bc (P_R_find Θ N h a0 a1) (fun v2 h1 => (jn (fun (h4 : mH) (s5 : Int32) => (gO Θ h4 9 a0 (bc (P_R_isDocked Θ N h4 a0 v2) (fun v7 h6 => (jn (fun (h9 : mH) (s10 : Int32) => (gO Θ h9 9 a0 (bc (P_R_holds Θ N h9 a0 s5 s10 (J 1) (J 1)) (fun v12 h11 => (jn (fun (h14 : mH) => (bo (rI Θ h14 9 a0 13) (fun v15 => (if v15 = 0 then (bo (rA Θ h14 9 a0 0) (fun v16 => (bc (P_R_place Θ N h14 v2 (J 4)) (fun v18 h17 => (bo (aW Θ h17 0 v16 v18 (J (-1))) (fun h19 => (bo (rA Θ h19 9 a0 0) (fun v20 => (bc (P_R_place Θ N h19 v2 (J 5)) (fun v22 h21 => (bo (aW Θ h21 0 v20 v22 (J 0)) (fun h23 => (gO Θ h23 9 a0 (bc (P_R_docked Θ N h23 a0) (fun v25 h24 => (some (v25, h24))))))))))))))))) else (some ((J 0), h14)))))) (fun j13 => (if v12 = 0 then (j13 h11) else (gO Θ h11 9 a0 (bc (P_R_floats Θ N h11 a0 v2) (fun v27 h26 => (jn (fun (h29 : mH) (s30 : Int32) => (gO Θ h29 9 a0 (bc (P_R_refuses Θ N h29 a0 (J 3) s30) (fun v32 h31 => (j13 h31))))) (fun j28 => (if v27 = 0 then (j28 h26 (J 3)) else (gO Θ h26 9 a0 (bc (P_R_of Θ N h26 a0 v2 (J 8)) (fun v34 h33 => (if v34 = 0 then (j28 h33 (J 0)) else (j28 h33 (J 4))))))))))))))))))) (fun j8 => (jn (fun (h36 : mH) => (j8 h36 (J 0))) (fun j35 => (if v7 = 0 then (j35 h6) else (bo (rA Θ h6 9 a0 0) (fun v37 => (bo (aR Θ h6 0 v37 (J 2)) (fun v38 => (if v38 = (J 1) then (j8 h6 (J 1)) else (j35 h6))))))))))))))) (fun j3 => (if v2 = (J (-1)) then (j3 h1 (J 0)) else (j3 h1 (J 1))))))))
theorem S_R_leaves (hfl : HF l Θ) (hD : 5 ≤ d) (h : mH) (a0 : Nat) (a1 : Int32) : mMs l Θ d M_R_leaves [.ref a0, .int a1] h (tR vI) (P_R_leaves Θ N h a0 a1) := by
  refine mMs.of hfl (by decide +kernel) rfl (Nat.le_of_ble_eq_true rfl) (loc := [some (.ref a0), some (.int a1), none]) rfl ?_
  unfold P_R_leaves
  refine y_aload_n d_R_leaves_0 rfl ?_
  refine y_iload_n d_R_leaves_1 rfl ?_
  refine y_gO (fun fs1 g1 => y_cI (c_vi (rest := []) d_R_leaves_2 k_R_find s_R_104 (Or.inl ⟨_, _, _, g1, rfl, rfl⟩) rfl rfl (Nat.le_of_ble_eq_true rfl) (Nat.le_trans (Nat.le_of_ble_eq_true rfl : 3 + 1 ≤ 5) hD) (S_R_find hfl (Nat.le_refl _) h a0 a1)) (fun v2 h1 => ?_))
  refine y_istore_n (loc2 := [some (.ref a0), some (.int a1), some (.int v2)]) d_R_leaves_5 (Nat.le_of_ble_eq_true rfl) rfl rfl ?_
  refine y_aload_n d_R_leaves_6 rfl ?_
  refine y_iload_n d_R_leaves_7 rfl ?_
  refine y_iconst (v := (J (-1))) d_R_leaves_8 rfl ?_
  refine y_jn (C := fun (j9 : mH → Int32 → Option (Int32 × mH)) => ∀ (h4 : mH) (s5 : Int32), mY l Θ d M_R_leaves 17 [some (.ref a0), none, some (.int v2)] [.int s5, .ref a0] h4 (tR vI) (j9 h4 s5)) (fun h4 s5 => ?_) (fun j3 Hj3 => ?_)
  · refine y_aload_n d_R_leaves_17 rfl ?_
    refine y_iload_n d_R_leaves_18 rfl ?_
    refine y_gO (fun fs1 g1 => y_cI (c_vi (rest := [.int s5, .ref a0]) d_R_leaves_19 k_R_isDocked s_R_79 (Or.inl ⟨_, _, _, g1, rfl, rfl⟩) rfl rfl (Nat.le_of_ble_eq_true rfl) (Nat.le_trans (Nat.le_of_ble_eq_true rfl : 3 + 1 ≤ 5) hD) (S_R_isDocked hfl (Nat.le_refl _) h4 a0 v2)) (fun v7 h6 => ?_))
    refine y_jn (C := fun (j9 : mH → Int32 → Option (Int32 × mH)) => ∀ (h9 : mH) (s10 : Int32), mY l Θ d M_R_leaves 40 [some (.ref a0), none, some (.int v2)] [.int s10, .int s5, .ref a0] h9 (tR vI) (j9 h9 s10)) (fun h9 s10 => ?_) (fun j8 Hj8 => ?_)
    · refine y_iconst (v := (J 1)) d_R_leaves_40 rfl ?_
      refine y_iconst (v := (J 1)) d_R_leaves_41 rfl ?_
      refine y_gO (fun fs1 g1 => y_cI (c_vi (rest := []) d_R_leaves_42 k_R_holds s_R_45 (Or.inl ⟨_, _, _, g1, rfl, rfl⟩) rfl rfl (Nat.le_of_ble_eq_true rfl) (Nat.le_trans (Nat.le_of_ble_eq_true rfl : 1 + 1 ≤ 5) hD) (S_R_holds hfl (Nat.le_refl _) h9 a0 s5 s10 (J 1) (J 1))) (fun v12 h11 => ?_))
      refine y_jn (C := fun (j9 : mH → Option (Int32 × mH)) => ∀ (h14 : mH), mY l Θ d M_R_leaves 80 [some (.ref a0), none, some (.int v2)] [] h14 (tR vI) (j9 h14)) (fun h14 => ?_) (fun j13 Hj13 => ?_)
      · refine y_aload_n d_R_leaves_80 rfl ?_
        refine y_getI d_R_leaves_81 f_R_42 (fun v15 => ?_)
        refine y_if_eq (tgt := 89) d_R_leaves_84 (by decide) ?_ ?_
        · refine y_aload_n d_R_leaves_89 rfl ?_
          refine y_getA d_R_leaves_90 f_R_9 (fun v16 => ?_)
          refine y_iload_n d_R_leaves_93 rfl ?_
          refine y_iconst (v := (J 4)) d_R_leaves_94 rfl ?_
          refine y_cI (c_st (rest := [.ref v16]) d_R_leaves_95 k_R_place s_R_76 rfl rfl (Nat.le_of_ble_eq_true rfl) (Nat.le_trans (Nat.le_of_ble_eq_true rfl : 1 + 1 ≤ 5) hD) (S_R_place hfl (Nat.le_refl _) h14 v2 (J 4))) (fun v18 h17 => ?_)
          refine y_iconst (v := (J (-1))) d_R_leaves_98 rfl ?_
          refine y_iast d_R_leaves_99 (fun h19 => ?_)
          refine y_aload_n d_R_leaves_100 rfl ?_
          refine y_getA d_R_leaves_101 f_R_9 (fun v20 => ?_)
          refine y_iload_n d_R_leaves_104 rfl ?_
          refine y_iconst (v := (J 5)) d_R_leaves_105 rfl ?_
          refine y_cI (c_st (rest := [.ref v20]) d_R_leaves_106 k_R_place s_R_76 rfl rfl (Nat.le_of_ble_eq_true rfl) (Nat.le_trans (Nat.le_of_ble_eq_true rfl : 1 + 1 ≤ 5) hD) (S_R_place hfl (Nat.le_refl _) h19 v2 (J 5))) (fun v22 h21 => ?_)
          refine y_iconst (v := (J 0)) d_R_leaves_109 rfl ?_
          refine y_iast d_R_leaves_110 (fun h23 => ?_)
          refine y_aload_n d_R_leaves_111 rfl ?_
          refine y_gO (fun fs1 g1 => y_cI (c_vi (rest := []) d_R_leaves_112 k_R_docked s_R_121 (Or.inl ⟨_, _, _, g1, rfl, rfl⟩) rfl rfl (Nat.le_of_ble_eq_true rfl) (Nat.le_trans (Nat.le_of_ble_eq_true rfl : 4 + 1 ≤ 5) hD) (S_R_docked hfl (Nat.le_refl _) h23 a0)) (fun v25 h24 => ?_))
          exact y_retI d_R_leaves_115 rfl rfl
        · refine y_iconst (v := (J 0)) d_R_leaves_87 rfl ?_
          exact y_retI d_R_leaves_88 rfl rfl
      · refine y_if_eq (tgt := 80) d_R_leaves_45 (by decide) ?_ ?_
        · exact Hj13 h11
        · refine y_aload_n d_R_leaves_48 rfl ?_
          refine y_iconst (v := (J 3)) d_R_leaves_49 rfl ?_
          refine y_aload_n d_R_leaves_50 rfl ?_
          refine y_iload_n d_R_leaves_51 rfl ?_
          refine y_gO (fun fs1 g1 => y_cI (c_vi (rest := [.int (J 3), .ref a0]) d_R_leaves_52 k_R_floats s_R_128 (Or.inl ⟨_, _, _, g1, rfl, rfl⟩) rfl rfl (Nat.le_of_ble_eq_true rfl) (Nat.le_trans (Nat.le_of_ble_eq_true rfl : 4 + 1 ≤ 5) hD) (S_R_floats hfl (Nat.le_refl _) h11 a0 v2)) (fun v27 h26 => ?_))
          refine y_jn (C := fun (j9 : mH → Int32 → Option (Int32 × mH)) => ∀ (h29 : mH) (s30 : Int32), mY l Θ d M_R_leaves 77 [some (.ref a0), none, some (.int v2)] [.int s30, .int (J 3), .ref a0] h29 (tR vI) (j9 h29 s30)) (fun h29 s30 => ?_) (fun j28 Hj28 => ?_)
          · refine y_gO (fun fs1 g1 => y_cU (c_vi (rest := []) d_R_leaves_77 k_R_refuses s_R_117 (Or.inl ⟨_, _, _, g1, rfl, rfl⟩) rfl rfl (Nat.le_of_ble_eq_true rfl) (Nat.le_trans (Nat.le_of_ble_eq_true rfl : 1 + 1 ≤ 5) hD) (S_R_refuses hfl (Nat.le_refl _) h29 a0 (J 3) s30)) (fun v32 h31 => ?_))
            exact Hj13 h31
          · refine y_if_ne (tgt := 62) d_R_leaves_55 (by decide) ?_ ?_
            · refine y_aload_n d_R_leaves_62 rfl ?_
              refine y_iload_n d_R_leaves_63 rfl ?_
              refine y_bipush (v := (J 8)) d_R_leaves_64 (by decide +kernel) ?_
              refine y_gO (fun fs1 g1 => y_cI (c_vi (rest := [.int (J 3), .ref a0]) d_R_leaves_66 k_R_of s_R_67 (Or.inl ⟨_, _, _, g1, rfl, rfl⟩) rfl rfl (Nat.le_of_ble_eq_true rfl) (Nat.le_trans (Nat.le_of_ble_eq_true rfl : 2 + 1 ≤ 5) hD) (S_R_of hfl (Nat.le_refl _) h26 a0 v2 (J 8))) (fun v34 h33 => ?_))
              refine y_if_eq (tgt := 76) d_R_leaves_69 (by decide) ?_ ?_
              · refine y_iconst (v := (J 0)) d_R_leaves_76 rfl ?_
                exact Hj28 h33 (J 0)
              · refine y_iconst (v := (J 4)) d_R_leaves_72 rfl ?_
                refine y_goto (tgt := 77) d_R_leaves_73 (by decide) ?_
                exact Hj28 h33 (J 4)
            · refine y_iconst (v := (J 3)) d_R_leaves_58 rfl ?_
              refine y_goto (tgt := 77) d_R_leaves_59 (by decide) ?_
              exact Hj28 h26 (J 3)
    · refine y_jn (C := fun (j9 : mH → Option (Int32 × mH)) => ∀ (h36 : mH), mY l Θ d M_R_leaves 39 [some (.ref a0), none, some (.int v2)] [.int s5, .ref a0] h36 (tR vI) (j9 h36)) (fun h36 => ?_) (fun j35 Hj35 => ?_)
      · refine y_iconst (v := (J 0)) d_R_leaves_39 rfl ?_
        exact Hj8 h36 (J 0)
      · refine y_if_eq (tgt := 39) d_R_leaves_22 (by decide) ?_ ?_
        · exact Hj35 h6
        · refine y_aload_n d_R_leaves_25 rfl ?_
          refine y_getA d_R_leaves_26 f_R_9 (fun v37 => ?_)
          refine y_iconst (v := (J 2)) d_R_leaves_29 rfl ?_
          refine y_iald d_R_leaves_30 (fun v38 => ?_)
          refine y_iconst (v := (J 1)) d_R_leaves_31 rfl ?_
          refine y_icmp_ne (tgt := 39) d_R_leaves_32 (by decide) ?_ ?_
          · exact Hj35 h6
          · refine y_iconst (v := (J 1)) d_R_leaves_35 rfl ?_
            refine y_goto (tgt := 40) d_R_leaves_36 (by decide) ?_
            exact Hj8 h6 (J 1)
  · refine y_icmp_eq (tgt := 16) d_R_leaves_9 (by decide) ?_ ?_
    · refine y_iconst (v := (J 0)) d_R_leaves_16 rfl ?_
      exact y_wk (loc2 := [some (.ref a0), none, some (.int v2)]) ⟨rfl, ⟨rfl, trivial⟩⟩ (Hj3 h1 (J 0))
    · refine y_iconst (v := (J 1)) d_R_leaves_12 rfl ?_
      refine y_goto (tgt := 17) d_R_leaves_13 (by decide) ?_
      exact y_wk (loc2 := [some (.ref a0), none, some (.int v2)]) ⟨rfl, ⟨rfl, trivial⟩⟩ (Hj3 h1 (J 1))
noncomputable def P_R_leave (Θ : mW) (N : Nat) (h : mH) (a0 : Nat) (a1 : Int32) : Option (Int32 × mH) :=
  (gO Θ h 9 a0 (bc (P_R_begins Θ N h a0) (fun v2 h1 => (gO Θ h1 9 a0 (bc (P_R_leaves Θ N h1 a0 a1) (fun v4 h3 => (gO Θ h3 9 a0 (bc (P_R_ends Θ N h3 a0 v4) (fun v6 h5 => (some (v6, h5)))))))))))
theorem S_R_leave (hfl : HF l Θ) (hD : 6 ≤ d) (h : mH) (a0 : Nat) (a1 : Int32) : mMs l Θ d M_R_leave [.ref a0, .int a1] h (tR vI) (P_R_leave Θ N h a0 a1) := by
  refine mMs.of hfl (by decide +kernel) rfl (Nat.le_of_ble_eq_true rfl) (loc := [some (.ref a0), some (.int a1)]) rfl ?_
  unfold P_R_leave
  refine y_aload_n d_R_leave_0 rfl ?_
  refine y_gO (fun fs1 g1 => y_cU (c_vi (rest := []) d_R_leave_1 k_R_begins s_R_94 (Or.inl ⟨_, _, _, g1, rfl, rfl⟩) rfl rfl (Nat.le_of_ble_eq_true rfl) (Nat.le_trans (Nat.le_of_ble_eq_true rfl : 2 + 1 ≤ 6) hD) (S_R_begins hfl (Nat.le_refl _) h a0)) (fun v2 h1 => ?_))
  refine y_aload_n d_R_leave_4 rfl ?_
  refine y_aload_n d_R_leave_5 rfl ?_
  refine y_iload_n d_R_leave_6 rfl ?_
  refine y_gO (fun fs1 g1 => y_cI (c_vi (rest := [.ref a0]) d_R_leave_7 k_R_leaves s_R_131 (Or.inl ⟨_, _, _, g1, rfl, rfl⟩) rfl rfl (Nat.le_of_ble_eq_true rfl) (Nat.le_trans (Nat.le_of_ble_eq_true rfl : 5 + 1 ≤ 6) hD) (S_R_leaves hfl (Nat.le_refl _) h1 a0 a1)) (fun v4 h3 => ?_))
  refine y_gO (fun fs1 g1 => y_cI (c_vi (rest := []) d_R_leave_10 k_R_ends s_R_101 (Or.inl ⟨_, _, _, g1, rfl, rfl⟩) rfl rfl (Nat.le_of_ble_eq_true rfl) (Nat.le_trans (Nat.le_of_ble_eq_true rfl : 3 + 1 ≤ 6) hD) (S_R_ends hfl (Nat.le_refl _) h3 a0 v4)) (fun v6 h5 => ?_))
  exact y_retI d_R_leave_13 rfl rfl
noncomputable def P_R_cleans (Θ : mW) (N : Nat) (h : mH) (a0 : Nat) (a1 : Int32) (a2 : Int32) : Option (Int32 × mH) :=
  (gO Θ h 9 a0 (bc (P_R_find Θ N h a0 a1) (fun v2 h1 => (jn (fun (h4 : mH) (s5 : Int32) => (gO Θ h4 9 a0 (bc (P_R_isDocked Θ N h4 a0 v2) (fun v7 h6 => (gO Θ h6 9 a0 (bc (P_R_holds Θ N h6 a0 s5 v7 (J 1) (J 1)) (fun v9 h8 => (if v9 = 0 then (some ((J 0), h8)) else (gO Θ h8 9 a0 (bc (P_R_of Θ N h8 a0 v2 (J 5)) (fun v11 h10 => (bo (rA Θ h10 9 a0 0) (fun v12 => (bc (P_R_place Θ N h10 v2 (J 5)) (fun v14 h13 => (bo (aW Θ h13 0 v12 v14 a2) (fun h15 => (some (v11, h15))))))))))))))))))) (fun j3 => (if v2 = (J (-1)) then (j3 h1 (J 0)) else (j3 h1 (J 1))))))))
theorem S_R_cleans (hfl : HF l Θ) (hD : 4 ≤ d) (h : mH) (a0 : Nat) (a1 : Int32) (a2 : Int32) : mMs l Θ d M_R_cleans [.ref a0, .int a1, .int a2] h (tR vI) (P_R_cleans Θ N h a0 a1 a2) := by
  refine mMs.of hfl (by decide +kernel) rfl (Nat.le_of_ble_eq_true rfl) (loc := [some (.ref a0), some (.int a1), some (.int a2), none, none]) rfl ?_
  unfold P_R_cleans
  refine y_aload_n d_R_cleans_0 rfl ?_
  refine y_iload_n d_R_cleans_1 rfl ?_
  refine y_gO (fun fs1 g1 => y_cI (c_vi (rest := []) d_R_cleans_2 k_R_find s_R_104 (Or.inl ⟨_, _, _, g1, rfl, rfl⟩) rfl rfl (Nat.le_of_ble_eq_true rfl) (Nat.le_trans (Nat.le_of_ble_eq_true rfl : 3 + 1 ≤ 4) hD) (S_R_find hfl (Nat.le_refl _) h a0 a1)) (fun v2 h1 => ?_))
  refine y_istore_n (loc2 := [some (.ref a0), some (.int a1), some (.int a2), some (.int v2), none]) d_R_cleans_5 (Nat.le_of_ble_eq_true rfl) rfl rfl ?_
  refine y_aload_n d_R_cleans_6 rfl ?_
  refine y_iload_n d_R_cleans_7 rfl ?_
  refine y_iconst (v := (J (-1))) d_R_cleans_8 rfl ?_
  refine y_jn (C := fun (j9 : mH → Int32 → Option (Int32 × mH)) => ∀ (h4 : mH) (s5 : Int32), mY l Θ d M_R_cleans 17 [some (.ref a0), none, some (.int a2), some (.int v2), none] [.int s5, .ref a0] h4 (tR vI) (j9 h4 s5)) (fun h4 s5 => ?_) (fun j3 Hj3 => ?_)
  · refine y_aload_n d_R_cleans_17 rfl ?_
    refine y_iload_n d_R_cleans_18 rfl ?_
    refine y_gO (fun fs1 g1 => y_cI (c_vi (rest := [.int s5, .ref a0]) d_R_cleans_19 k_R_isDocked s_R_79 (Or.inl ⟨_, _, _, g1, rfl, rfl⟩) rfl rfl (Nat.le_of_ble_eq_true rfl) (Nat.le_trans (Nat.le_of_ble_eq_true rfl : 3 + 1 ≤ 4) hD) (S_R_isDocked hfl (Nat.le_refl _) h4 a0 v2)) (fun v7 h6 => ?_))
    refine y_iconst (v := (J 1)) d_R_cleans_22 rfl ?_
    refine y_iconst (v := (J 1)) d_R_cleans_23 rfl ?_
    refine y_gO (fun fs1 g1 => y_cI (c_vi (rest := []) d_R_cleans_24 k_R_holds s_R_45 (Or.inl ⟨_, _, _, g1, rfl, rfl⟩) rfl rfl (Nat.le_of_ble_eq_true rfl) (Nat.le_trans (Nat.le_of_ble_eq_true rfl : 1 + 1 ≤ 4) hD) (S_R_holds hfl (Nat.le_refl _) h6 a0 s5 v7 (J 1) (J 1))) (fun v9 h8 => ?_))
    refine y_if_ne (tgt := 32) d_R_cleans_27 (by decide) ?_ ?_
    · refine y_aload_n d_R_cleans_32 rfl ?_
      refine y_iload_n d_R_cleans_33 rfl ?_
      refine y_iconst (v := (J 5)) d_R_cleans_34 rfl ?_
      refine y_gO (fun fs1 g1 => y_cI (c_vi (rest := []) d_R_cleans_35 k_R_of s_R_67 (Or.inl ⟨_, _, _, g1, rfl, rfl⟩) rfl rfl (Nat.le_of_ble_eq_true rfl) (Nat.le_trans (Nat.le_of_ble_eq_true rfl : 2 + 1 ≤ 4) hD) (S_R_of hfl (Nat.le_refl _) h8 a0 v2 (J 5))) (fun v11 h10 => ?_))
      refine y_istore (loc2 := [some (.ref a0), none, some (.int a2), some (.int v2), some (.int v11)]) d_R_cleans_38 (Nat.le_of_ble_eq_true rfl) rfl rfl ?_
      refine y_aload_n d_R_cleans_40 rfl ?_
      refine y_getA d_R_cleans_41 f_R_9 (fun v12 => ?_)
      refine y_iload_n d_R_cleans_44 rfl ?_
      refine y_iconst (v := (J 5)) d_R_cleans_45 rfl ?_
      refine y_cI (c_st (rest := [.ref v12]) d_R_cleans_46 k_R_place s_R_76 rfl rfl (Nat.le_of_ble_eq_true rfl) (Nat.le_trans (Nat.le_of_ble_eq_true rfl : 1 + 1 ≤ 4) hD) (S_R_place hfl (Nat.le_refl _) h10 v2 (J 5))) (fun v14 h13 => ?_)
      refine y_iload_n d_R_cleans_49 rfl ?_
      refine y_iast d_R_cleans_50 (fun h15 => ?_)
      refine y_iload d_R_cleans_51 rfl ?_
      exact y_retI d_R_cleans_53 rfl rfl
    · refine y_iconst (v := (J 0)) d_R_cleans_30 rfl ?_
      exact y_retI d_R_cleans_31 rfl rfl
  · refine y_icmp_eq (tgt := 16) d_R_cleans_9 (by decide) ?_ ?_
    · refine y_iconst (v := (J 0)) d_R_cleans_16 rfl ?_
      exact y_wk (loc2 := [some (.ref a0), none, some (.int a2), some (.int v2), none]) ⟨rfl, ⟨rfl, ⟨rfl, trivial⟩⟩⟩ (Hj3 h1 (J 0))
    · refine y_iconst (v := (J 1)) d_R_cleans_12 rfl ?_
      refine y_goto (tgt := 17) d_R_cleans_13 (by decide) ?_
      exact y_wk (loc2 := [some (.ref a0), none, some (.int a2), some (.int v2), none]) ⟨rfl, ⟨rfl, ⟨rfl, trivial⟩⟩⟩ (Hj3 h1 (J 1))
noncomputable def P_R_setCleaning (Θ : mW) (N : Nat) (h : mH) (a0 : Nat) (a1 : Int32) (a2 : Int32) : Option (Int32 × mH) :=
  (gO Θ h 9 a0 (bc (P_R_begins Θ N h a0) (fun v2 h1 => (jn (fun (h4 : mH) (s5 : Int32) => (gO Θ h4 9 a0 (bc (P_R_cleans Θ N h4 a0 a1 s5) (fun v7 h6 => (gO Θ h6 9 a0 (bc (P_R_ends Θ N h6 a0 v7) (fun v9 h8 => (if v9 = (J 1) then (some ((J 1), h8)) else (some ((J 0), h8)))))))))) (fun j3 => (if a2 = 0 then (j3 h1 (J 0)) else (j3 h1 (J 1))))))))
theorem S_R_setCleaning (hfl : HF l Θ) (hD : 5 ≤ d) (h : mH) (a0 : Nat) (a1 : Int32) (a2 : Int32) : mMs l Θ d M_R_setCleaning [.ref a0, .int a1, .int a2] h (tR vI) (P_R_setCleaning Θ N h a0 a1 a2) := by
  refine mMs.of hfl (by decide +kernel) rfl (Nat.le_of_ble_eq_true rfl) (loc := [some (.ref a0), some (.int a1), some (.int a2)]) rfl ?_
  unfold P_R_setCleaning
  refine y_aload_n d_R_setCleaning_0 rfl ?_
  refine y_gO (fun fs1 g1 => y_cU (c_vi (rest := []) d_R_setCleaning_1 k_R_begins s_R_94 (Or.inl ⟨_, _, _, g1, rfl, rfl⟩) rfl rfl (Nat.le_of_ble_eq_true rfl) (Nat.le_trans (Nat.le_of_ble_eq_true rfl : 2 + 1 ≤ 5) hD) (S_R_begins hfl (Nat.le_refl _) h a0)) (fun v2 h1 => ?_))
  refine y_aload_n d_R_setCleaning_4 rfl ?_
  refine y_aload_n d_R_setCleaning_5 rfl ?_
  refine y_iload_n d_R_setCleaning_6 rfl ?_
  refine y_iload_n d_R_setCleaning_7 rfl ?_
  refine y_jn (C := fun (j9 : mH → Int32 → Option (Int32 × mH)) => ∀ (h4 : mH) (s5 : Int32), mY l Θ d M_R_setCleaning 16 [none, none, none] [.int s5, .int a1, .ref a0, .ref a0] h4 (tR vI) (j9 h4 s5)) (fun h4 s5 => ?_) (fun j3 Hj3 => ?_)
  · refine y_gO (fun fs1 g1 => y_cI (c_vi (rest := [.ref a0]) d_R_setCleaning_16 k_R_cleans s_R_134 (Or.inl ⟨_, _, _, g1, rfl, rfl⟩) rfl rfl (Nat.le_of_ble_eq_true rfl) (Nat.le_trans (Nat.le_of_ble_eq_true rfl : 4 + 1 ≤ 5) hD) (S_R_cleans hfl (Nat.le_refl _) h4 a0 a1 s5)) (fun v7 h6 => ?_))
    refine y_gO (fun fs1 g1 => y_cI (c_vi (rest := []) d_R_setCleaning_19 k_R_ends s_R_101 (Or.inl ⟨_, _, _, g1, rfl, rfl⟩) rfl rfl (Nat.le_of_ble_eq_true rfl) (Nat.le_trans (Nat.le_of_ble_eq_true rfl : 3 + 1 ≤ 5) hD) (S_R_ends hfl (Nat.le_refl _) h6 a0 v7)) (fun v9 h8 => ?_))
    refine y_iconst (v := (J 1)) d_R_setCleaning_22 rfl ?_
    refine y_icmp_ne (tgt := 30) d_R_setCleaning_23 (by decide) ?_ ?_
    · refine y_iconst (v := (J 0)) d_R_setCleaning_30 rfl ?_
      exact y_retI d_R_setCleaning_31 rfl (by decide +kernel)
    · refine y_iconst (v := (J 1)) d_R_setCleaning_26 rfl ?_
      refine y_goto (tgt := 31) d_R_setCleaning_27 (by decide) ?_
      exact y_retI d_R_setCleaning_31 rfl (by decide +kernel)
  · refine y_if_eq (tgt := 15) d_R_setCleaning_8 (by decide) ?_ ?_
    · refine y_iconst (v := (J 0)) d_R_setCleaning_15 rfl ?_
      exact y_wk (loc2 := [none, none, none]) trivial (Hj3 h1 (J 0))
    · refine y_iconst (v := (J 1)) d_R_setCleaning_11 rfl ?_
      refine y_goto (tgt := 16) d_R_setCleaning_12 (by decide) ?_
      exact y_wk (loc2 := [none, none, none]) trivial (Hj3 h1 (J 1))
noncomputable def P_R_pays (Θ : mW) (N : Nat) (h : mH) (a0 : Nat) (a1 : Int32) (a2 : Int32) : Option (Int32 × mH) :=
  (gO Θ h 9 a0 (bc (P_R_find Θ N h a0 a1) (fun v2 h1 => (bc (P_R_isIn Θ N h1 a2 (J 1) (J 999)) (fun v4 h3 => (jn (fun (h6 : mH) (s7 : Int32) => (jn (fun (h9 : mH) (s10 : Int32) => (gO Θ h9 9 a0 (bc (P_R_holds Θ N h9 a0 s7 v4 s10 (J 1)) (fun v12 h11 => (if v12 = 0 then (some ((J 0), h11)) else (bo (rA Θ h11 9 a0 0) (fun v13 => (bc (P_R_place Θ N h11 v2 (J 8)) (fun v15 h14 => (bo (aR Θ h14 0 v13 v15) (fun v16 => (bo (aW Θ h14 0 v13 v15 (v16 - a2)) (fun h17 => (bo (rA Θ h17 9 a0 0) (fun v18 => (bo (aR Θ h17 0 v18 (J 7)) (fun v19 => (bo (aW Θ h17 0 v18 (J 7) (v19 + a2)) (fun h20 => (gO Θ h20 9 a0 (bc (P_R_of Θ N h20 a0 v2 (J 8)) (fun v22 h21 => (some (v22, h21)))))))))))))))))))))))) (fun j8 => (jn (fun (h24 : mH) => (j8 h24 (J 0))) (fun j23 => (if v4 = 0 then (j23 h6) else (gO Θ h6 9 a0 (bc (P_R_of Θ N h6 a0 v2 (J 8)) (fun v26 h25 => (if v26 < a2 then (j23 h25) else (j8 h25 (J 1)))))))))))) (fun j5 => (if v2 = (J (-1)) then (j5 h3 (J 0)) else (j5 h3 (J 1))))))))))
theorem S_R_pays (hfl : HF l Θ) (hD : 4 ≤ d) (h : mH) (a0 : Nat) (a1 : Int32) (a2 : Int32) : mMs l Θ d M_R_pays [.ref a0, .int a1, .int a2] h (tR vI) (P_R_pays Θ N h a0 a1 a2) := by
  refine mMs.of hfl (by decide +kernel) rfl (Nat.le_of_ble_eq_true rfl) (loc := [some (.ref a0), some (.int a1), some (.int a2), none, none]) rfl ?_
  unfold P_R_pays
  refine y_aload_n d_R_pays_0 rfl ?_
  refine y_iload_n d_R_pays_1 rfl ?_
  refine y_gO (fun fs1 g1 => y_cI (c_vi (rest := []) d_R_pays_2 k_R_find s_R_104 (Or.inl ⟨_, _, _, g1, rfl, rfl⟩) rfl rfl (Nat.le_of_ble_eq_true rfl) (Nat.le_trans (Nat.le_of_ble_eq_true rfl : 3 + 1 ≤ 4) hD) (S_R_find hfl (Nat.le_refl _) h a0 a1)) (fun v2 h1 => ?_))
  refine y_istore_n (loc2 := [some (.ref a0), some (.int a1), some (.int a2), some (.int v2), none]) d_R_pays_5 (Nat.le_of_ble_eq_true rfl) rfl rfl ?_
  refine y_iload_n d_R_pays_6 rfl ?_
  refine y_iconst (v := (J 1)) d_R_pays_7 rfl ?_
  refine y_sipush (v := (J 999)) d_R_pays_8 (by decide +kernel) ?_
  refine y_cI (c_st (rest := []) d_R_pays_11 k_R_isIn s_R_83 rfl rfl (Nat.le_of_ble_eq_true rfl) (Nat.le_trans (Nat.le_of_ble_eq_true rfl : 1 + 1 ≤ 4) hD) (S_R_isIn hfl (Nat.le_refl _) h1 a2 (J 1) (J 999))) (fun v4 h3 => ?_)
  refine y_istore (loc2 := [some (.ref a0), some (.int a1), some (.int a2), some (.int v2), some (.int v4)]) d_R_pays_14 (Nat.le_of_ble_eq_true rfl) rfl rfl ?_
  refine y_aload_n d_R_pays_16 rfl ?_
  refine y_iload_n d_R_pays_17 rfl ?_
  refine y_iconst (v := (J (-1))) d_R_pays_18 rfl ?_
  refine y_jn (C := fun (j9 : mH → Int32 → Option (Int32 × mH)) => ∀ (h6 : mH) (s7 : Int32), mY l Θ d M_R_pays 27 [some (.ref a0), none, some (.int a2), some (.int v2), some (.int v4)] [.int s7, .ref a0] h6 (tR vI) (j9 h6 s7)) (fun h6 s7 => ?_) (fun j5 Hj5 => ?_)
  · refine y_iload d_R_pays_27 rfl ?_
    refine y_iload d_R_pays_29 rfl ?_
    refine y_jn (C := fun (j9 : mH → Int32 → Option (Int32 × mH)) => ∀ (h9 : mH) (s10 : Int32), mY l Θ d M_R_pays 50 [some (.ref a0), none, some (.int a2), some (.int v2), none] [.int s10, .int v4, .int s7, .ref a0] h9 (tR vI) (j9 h9 s10)) (fun h9 s10 => ?_) (fun j8 Hj8 => ?_)
    · refine y_iconst (v := (J 1)) d_R_pays_50 rfl ?_
      refine y_gO (fun fs1 g1 => y_cI (c_vi (rest := []) d_R_pays_51 k_R_holds s_R_45 (Or.inl ⟨_, _, _, g1, rfl, rfl⟩) rfl rfl (Nat.le_of_ble_eq_true rfl) (Nat.le_trans (Nat.le_of_ble_eq_true rfl : 1 + 1 ≤ 4) hD) (S_R_holds hfl (Nat.le_refl _) h9 a0 s7 v4 s10 (J 1))) (fun v12 h11 => ?_))
      refine y_if_ne (tgt := 59) d_R_pays_54 (by decide) ?_ ?_
      · refine y_aload_n d_R_pays_59 rfl ?_
        refine y_getA d_R_pays_60 f_R_9 (fun v13 => ?_)
        refine y_iload_n d_R_pays_63 rfl ?_
        refine y_bipush (v := (J 8)) d_R_pays_64 (by decide +kernel) ?_
        refine y_cI (c_st (rest := [.ref v13]) d_R_pays_66 k_R_place s_R_76 rfl rfl (Nat.le_of_ble_eq_true rfl) (Nat.le_trans (Nat.le_of_ble_eq_true rfl : 1 + 1 ≤ 4) hD) (S_R_place hfl (Nat.le_refl _) h11 v2 (J 8))) (fun v15 h14 => ?_)
        refine y_dup2 d_R_pays_69 rfl rfl ?_
        refine y_iald d_R_pays_70 (fun v16 => ?_)
        refine y_iload_n d_R_pays_71 rfl ?_
        refine y_isub (v := (v16 - a2)) d_R_pays_72 rfl ?_
        refine y_iast d_R_pays_73 (fun h17 => ?_)
        refine y_aload_n d_R_pays_74 rfl ?_
        refine y_getA d_R_pays_75 f_R_9 (fun v18 => ?_)
        refine y_bipush (v := (J 7)) d_R_pays_78 (by decide +kernel) ?_
        refine y_dup2 d_R_pays_80 rfl rfl ?_
        refine y_iald d_R_pays_81 (fun v19 => ?_)
        refine y_iload_n d_R_pays_82 rfl ?_
        refine y_iadd (v := (v19 + a2)) d_R_pays_83 rfl ?_
        refine y_iast d_R_pays_84 (fun h20 => ?_)
        refine y_aload_n d_R_pays_85 rfl ?_
        refine y_iload_n d_R_pays_86 rfl ?_
        refine y_bipush (v := (J 8)) d_R_pays_87 (by decide +kernel) ?_
        refine y_gO (fun fs1 g1 => y_cI (c_vi (rest := []) d_R_pays_89 k_R_of s_R_67 (Or.inl ⟨_, _, _, g1, rfl, rfl⟩) rfl rfl (Nat.le_of_ble_eq_true rfl) (Nat.le_trans (Nat.le_of_ble_eq_true rfl : 2 + 1 ≤ 4) hD) (S_R_of hfl (Nat.le_refl _) h20 a0 v2 (J 8))) (fun v22 h21 => ?_))
        exact y_retI d_R_pays_92 rfl rfl
      · refine y_iconst (v := (J 0)) d_R_pays_57 rfl ?_
        exact y_retI d_R_pays_58 rfl rfl
    · refine y_jn (C := fun (j9 : mH → Option (Int32 × mH)) => ∀ (h24 : mH), mY l Θ d M_R_pays 49 [some (.ref a0), none, some (.int a2), some (.int v2), none] [.int v4, .int s7, .ref a0] h24 (tR vI) (j9 h24)) (fun h24 => ?_) (fun j23 Hj23 => ?_)
      · refine y_iconst (v := (J 0)) d_R_pays_49 rfl ?_
        exact Hj8 h24 (J 0)
      · refine y_if_eq (tgt := 49) d_R_pays_31 (by decide) ?_ ?_
        · exact y_wk (loc2 := [some (.ref a0), none, some (.int a2), some (.int v2), none]) ⟨rfl, ⟨rfl, ⟨rfl, trivial⟩⟩⟩ (Hj23 h6)
        · refine y_aload_n d_R_pays_34 rfl ?_
          refine y_iload_n d_R_pays_35 rfl ?_
          refine y_bipush (v := (J 8)) d_R_pays_36 (by decide +kernel) ?_
          refine y_gO (fun fs1 g1 => y_cI (c_vi (rest := [.int v4, .int s7, .ref a0]) d_R_pays_38 k_R_of s_R_67 (Or.inl ⟨_, _, _, g1, rfl, rfl⟩) rfl rfl (Nat.le_of_ble_eq_true rfl) (Nat.le_trans (Nat.le_of_ble_eq_true rfl : 2 + 1 ≤ 4) hD) (S_R_of hfl (Nat.le_refl _) h6 a0 v2 (J 8))) (fun v26 h25 => ?_))
          refine y_iload_n d_R_pays_41 rfl ?_
          refine y_icmp_lt (tgt := 49) d_R_pays_42 (by decide) ?_ ?_
          · exact y_wk (loc2 := [some (.ref a0), none, some (.int a2), some (.int v2), none]) ⟨rfl, ⟨rfl, ⟨rfl, trivial⟩⟩⟩ (Hj23 h25)
          · refine y_iconst (v := (J 1)) d_R_pays_45 rfl ?_
            refine y_goto (tgt := 50) d_R_pays_46 (by decide) ?_
            exact y_wk (loc2 := [some (.ref a0), none, some (.int a2), some (.int v2), none]) ⟨rfl, ⟨rfl, ⟨rfl, trivial⟩⟩⟩ (Hj8 h25 (J 1))
  · refine y_icmp_eq (tgt := 26) d_R_pays_19 (by decide) ?_ ?_
    · refine y_iconst (v := (J 0)) d_R_pays_26 rfl ?_
      exact y_wk (loc2 := [some (.ref a0), none, some (.int a2), some (.int v2), some (.int v4)]) ⟨rfl, ⟨rfl, ⟨rfl, ⟨rfl, trivial⟩⟩⟩⟩ (Hj5 h3 (J 0))
    · refine y_iconst (v := (J 1)) d_R_pays_22 rfl ?_
      refine y_goto (tgt := 27) d_R_pays_23 (by decide) ?_
      exact y_wk (loc2 := [some (.ref a0), none, some (.int a2), some (.int v2), some (.int v4)]) ⟨rfl, ⟨rfl, ⟨rfl, ⟨rfl, trivial⟩⟩⟩⟩ (Hj5 h3 (J 1))
noncomputable def P_R_pay (Θ : mW) (N : Nat) (h : mH) (a0 : Nat) (a1 : Int32) (a2 : Int32) : Option (Int32 × mH) :=
  (gO Θ h 9 a0 (bc (P_R_begins Θ N h a0) (fun v2 h1 => (gO Θ h1 9 a0 (bc (P_R_pays Θ N h1 a0 a1 a2) (fun v4 h3 => (gO Θ h3 9 a0 (bc (P_R_ends Θ N h3 a0 v4) (fun v6 h5 => (some (v6, h5)))))))))))
theorem S_R_pay (hfl : HF l Θ) (hD : 5 ≤ d) (h : mH) (a0 : Nat) (a1 : Int32) (a2 : Int32) : mMs l Θ d M_R_pay [.ref a0, .int a1, .int a2] h (tR vI) (P_R_pay Θ N h a0 a1 a2) := by
  refine mMs.of hfl (by decide +kernel) rfl (Nat.le_of_ble_eq_true rfl) (loc := [some (.ref a0), some (.int a1), some (.int a2)]) rfl ?_
  unfold P_R_pay
  refine y_aload_n d_R_pay_0 rfl ?_
  refine y_gO (fun fs1 g1 => y_cU (c_vi (rest := []) d_R_pay_1 k_R_begins s_R_94 (Or.inl ⟨_, _, _, g1, rfl, rfl⟩) rfl rfl (Nat.le_of_ble_eq_true rfl) (Nat.le_trans (Nat.le_of_ble_eq_true rfl : 2 + 1 ≤ 5) hD) (S_R_begins hfl (Nat.le_refl _) h a0)) (fun v2 h1 => ?_))
  refine y_aload_n d_R_pay_4 rfl ?_
  refine y_aload_n d_R_pay_5 rfl ?_
  refine y_iload_n d_R_pay_6 rfl ?_
  refine y_iload_n d_R_pay_7 rfl ?_
  refine y_gO (fun fs1 g1 => y_cI (c_vi (rest := [.ref a0]) d_R_pay_8 k_R_pays s_R_137 (Or.inl ⟨_, _, _, g1, rfl, rfl⟩) rfl rfl (Nat.le_of_ble_eq_true rfl) (Nat.le_trans (Nat.le_of_ble_eq_true rfl : 4 + 1 ≤ 5) hD) (S_R_pays hfl (Nat.le_refl _) h1 a0 a1 a2)) (fun v4 h3 => ?_))
  refine y_gO (fun fs1 g1 => y_cI (c_vi (rest := []) d_R_pay_11 k_R_ends s_R_101 (Or.inl ⟨_, _, _, g1, rfl, rfl⟩) rfl rfl (Nat.le_of_ble_eq_true rfl) (Nat.le_trans (Nat.le_of_ble_eq_true rfl : 3 + 1 ≤ 5) hD) (S_R_ends hfl (Nat.le_refl _) h3 a0 v4)) (fun v6 h5 => ?_))
  exact y_retI d_R_pay_14 rfl rfl
noncomputable def P_R_seaAt (Θ : mW) (N : Nat) (h : mH) (a0 : Int32) : Option (Int32 × mH) :=
  (if (J 6) < (a0 - a0 / (J 12) * (J 12)) then (some (((J 160) - ((J 20) * ((a0 - a0 / (J 12) * (J 12)) - (J 6)))), h)) else (some (((J 40) + ((J 20) * (a0 - a0 / (J 12) * (J 12)))), h)))
theorem S_R_seaAt (hfl : HF l Θ) (hD : 1 ≤ d) (h : mH) (a0 : Int32) : mMs l Θ d M_R_seaAt [.int a0] h (tR vI) (P_R_seaAt Θ N h a0) := by
  refine mMs.of hfl (by decide +kernel) rfl (Nat.le_of_ble_eq_true rfl) (loc := [some (.int a0), none]) rfl ?_
  unfold P_R_seaAt
  refine y_iload_n d_R_seaAt_0 rfl ?_
  refine y_bipush (v := (J 12)) d_R_seaAt_1 (by decide +kernel) ?_
  refine y_irem (v := (a0 - a0 / (J 12) * (J 12))) d_R_seaAt_3 (by decide +kernel) rfl ?_
  refine y_istore_n (loc2 := [some (.int a0), some (.int (a0 - a0 / (J 12) * (J 12)))]) d_R_seaAt_4 (Nat.le_of_ble_eq_true rfl) rfl rfl ?_
  refine y_iload_n d_R_seaAt_5 rfl ?_
  refine y_bipush (v := (J 6)) d_R_seaAt_6 (by decide +kernel) ?_
  refine y_icmp_gt (tgt := 21) d_R_seaAt_8 (by decide) ?_ ?_
  · refine y_sipush (v := (J 160)) d_R_seaAt_21 (by decide +kernel) ?_
    refine y_bipush (v := (J 20)) d_R_seaAt_24 (by decide +kernel) ?_
    refine y_iload_n d_R_seaAt_26 rfl ?_
    refine y_bipush (v := (J 6)) d_R_seaAt_27 (by decide +kernel) ?_
    refine y_isub (v := ((a0 - a0 / (J 12) * (J 12)) - (J 6))) d_R_seaAt_29 rfl ?_
    refine y_imul (v := ((J 20) * ((a0 - a0 / (J 12) * (J 12)) - (J 6)))) d_R_seaAt_30 rfl ?_
    refine y_isub (v := ((J 160) - ((J 20) * ((a0 - a0 / (J 12) * (J 12)) - (J 6))))) d_R_seaAt_31 rfl ?_
    exact y_retI d_R_seaAt_32 rfl rfl
  · refine y_bipush (v := (J 40)) d_R_seaAt_11 (by decide +kernel) ?_
    refine y_bipush (v := (J 20)) d_R_seaAt_13 (by decide +kernel) ?_
    refine y_iload_n d_R_seaAt_15 rfl ?_
    refine y_imul (v := ((J 20) * (a0 - a0 / (J 12) * (J 12)))) d_R_seaAt_16 rfl ?_
    refine y_iadd (v := ((J 40) + ((J 20) * (a0 - a0 / (J 12) * (J 12))))) d_R_seaAt_17 rfl ?_
    refine y_goto (tgt := 32) d_R_seaAt_18 (by decide) ?_
    exact y_retI d_R_seaAt_32 rfl rfl
noncomputable def P_R_gates (Θ : mW) (N : Nat) (h : mH) (a0 : Nat) (a1 : Int32) : Option (Int32 × mH) :=
  (bo (rA Θ h 9 a0 0) (fun v1 => (bo (aR Θ h 0 v1 (J 1)) (fun v2 => (bo (rA Θ h 9 a0 0) (fun v3 => (bo (aR Θ h 0 v3 (J 0)) (fun v4 => (bc (P_R_seaAt Θ N h v4) (fun v6 h5 => (jn (fun (h8 : mH) (s9 : Int32) => (bo (rA Θ h8 9 a0 0) (fun v10 => (bo (aR Θ h8 0 v10 (J 2)) (fun v11 => (jn (fun (h13 : mH) (s14 : Int32) => (gO Θ h13 9 a0 (bc (P_R_goes Θ N h13 a0 s14) (fun v16 h15 => (if v16 = 0 then (some (v11, h15)) else (bo (rA Θ h15 9 a0 0) (fun v17 => (bo (aW Θ h15 0 v17 (J 2) a1) (fun h18 => (some (v11, h18))))))))))) (fun j12 => (jn (fun (h20 : mH) => (j12 h20 (J 1))) (fun j19 => (if a1 = 0 then (j19 h8) else (if s9 = 0 then (j12 h8 (J 0)) else (j19 h8)))))))))))) (fun j7 => (if (J 20) < (abI (v2 - v6)) then (j7 h5 (J 0)) else (j7 h5 (J 1)))))))))))))))
theorem S_R_gates (hfl : HF l Θ) (hD : 3 ≤ d) (h : mH) (a0 : Nat) (a1 : Int32) : mMs l Θ d M_R_gates [.ref a0, .int a1] h (tR vI) (P_R_gates Θ N h a0 a1) := by
  refine mMs.of hfl (by decide +kernel) rfl (Nat.le_of_ble_eq_true rfl) (loc := [some (.ref a0), some (.int a1), none, none]) rfl ?_
  unfold P_R_gates
  refine y_aload_n d_R_gates_0 rfl ?_
  refine y_getA d_R_gates_1 f_R_9 (fun v1 => ?_)
  refine y_iconst (v := (J 1)) d_R_gates_4 rfl ?_
  refine y_iald d_R_gates_5 (fun v2 => ?_)
  refine y_aload_n d_R_gates_6 rfl ?_
  refine y_getA d_R_gates_7 f_R_9 (fun v3 => ?_)
  refine y_iconst (v := (J 0)) d_R_gates_10 rfl ?_
  refine y_iald d_R_gates_11 (fun v4 => ?_)
  refine y_cI (c_st (rest := [.int v2]) d_R_gates_12 k_R_seaAt s_R_140 rfl rfl (Nat.le_of_ble_eq_true rfl) (Nat.le_trans (Nat.le_of_ble_eq_true rfl : 1 + 1 ≤ 3) hD) (S_R_seaAt hfl (Nat.le_refl _) h v4)) (fun v6 h5 => ?_)
  refine y_isub (v := (v2 - v6)) d_R_gates_15 rfl ?_
  refine y_mabs d_R_gates_16 s_R_143.1 s_R_143.2 k_MA_abs.2.2.2.2.2 (mG (5, 231) (by decide +kernel)) (Nat.le_of_ble_eq_true rfl) (Nat.le_trans (Nat.le_of_ble_eq_true rfl) hD) ?_
  refine y_bipush (v := (J 20)) d_R_gates_19 (by decide +kernel) ?_
  refine y_jn (C := fun (j9 : mH → Int32 → Option (Int32 × mH)) => ∀ (h8 : mH) (s9 : Int32), mY l Θ d M_R_gates 29 [some (.ref a0), some (.int a1), none, none] [.int s9] h8 (tR vI) (j9 h8 s9)) (fun h8 s9 => ?_) (fun j7 Hj7 => ?_)
  · refine y_istore_n (loc2 := [some (.ref a0), some (.int a1), some (.int s9), none]) d_R_gates_29 (Nat.le_of_ble_eq_true rfl) rfl rfl ?_
    refine y_aload_n d_R_gates_30 rfl ?_
    refine y_getA d_R_gates_31 f_R_9 (fun v10 => ?_)
    refine y_iconst (v := (J 2)) d_R_gates_34 rfl ?_
    refine y_iald d_R_gates_35 (fun v11 => ?_)
    refine y_istore_n (loc2 := [some (.ref a0), some (.int a1), some (.int s9), some (.int v11)]) d_R_gates_36 (Nat.le_of_ble_eq_true rfl) rfl rfl ?_
    refine y_aload_n d_R_gates_37 rfl ?_
    refine y_iload_n d_R_gates_38 rfl ?_
    refine y_jn (C := fun (j9 : mH → Int32 → Option (Int32 × mH)) => ∀ (h13 : mH) (s14 : Int32), mY l Θ d M_R_gates 51 [some (.ref a0), some (.int a1), none, some (.int v11)] [.int s14, .ref a0] h13 (tR vI) (j9 h13 s14)) (fun h13 s14 => ?_) (fun j12 Hj12 => ?_)
    · refine y_gO (fun fs1 g1 => y_cI (c_vi (rest := []) d_R_gates_51 k_R_goes s_R_59 (Or.inl ⟨_, _, _, g1, rfl, rfl⟩) rfl rfl (Nat.le_of_ble_eq_true rfl) (Nat.le_trans (Nat.le_of_ble_eq_true rfl : 2 + 1 ≤ 3) hD) (S_R_goes hfl (Nat.le_refl _) h13 a0 s14)) (fun v16 h15 => ?_))
      refine y_if_eq (tgt := 64) d_R_gates_54 (by decide) ?_ ?_
      · refine y_iload_n d_R_gates_64 rfl ?_
        exact y_retI d_R_gates_65 rfl rfl
      · refine y_aload_n d_R_gates_57 rfl ?_
        refine y_getA d_R_gates_58 f_R_9 (fun v17 => ?_)
        refine y_iconst (v := (J 2)) d_R_gates_61 rfl ?_
        refine y_iload_n d_R_gates_62 rfl ?_
        refine y_iast d_R_gates_63 (fun h18 => ?_)
        refine y_iload_n d_R_gates_64 rfl ?_
        exact y_retI d_R_gates_65 rfl rfl
    · refine y_jn (C := fun (j9 : mH → Option (Int32 × mH)) => ∀ (h20 : mH), mY l Θ d M_R_gates 46 [some (.ref a0), some (.int a1), none, some (.int v11)] [.ref a0] h20 (tR vI) (j9 h20)) (fun h20 => ?_) (fun j19 Hj19 => ?_)
      · refine y_iconst (v := (J 1)) d_R_gates_46 rfl ?_
        refine y_goto (tgt := 51) d_R_gates_47 (by decide) ?_
        exact Hj12 h20 (J 1)
      · refine y_if_eq (tgt := 46) d_R_gates_39 (by decide) ?_ ?_
        · exact y_wk (loc2 := [some (.ref a0), some (.int a1), none, some (.int v11)]) ⟨rfl, ⟨rfl, ⟨rfl, trivial⟩⟩⟩ (Hj19 h8)
        · refine y_iload_n d_R_gates_42 rfl ?_
          refine y_if_eq (tgt := 50) d_R_gates_43 (by decide) ?_ ?_
          · refine y_iconst (v := (J 0)) d_R_gates_50 rfl ?_
            exact y_wk (loc2 := [some (.ref a0), some (.int a1), none, some (.int v11)]) ⟨rfl, ⟨rfl, ⟨rfl, trivial⟩⟩⟩ (Hj12 h8 (J 0))
          · exact y_wk (loc2 := [some (.ref a0), some (.int a1), none, some (.int v11)]) ⟨rfl, ⟨rfl, ⟨rfl, trivial⟩⟩⟩ (Hj19 h8)
  · refine y_icmp_gt (tgt := 28) d_R_gates_21 (by decide) ?_ ?_
    · refine y_iconst (v := (J 0)) d_R_gates_28 rfl ?_
      exact Hj7 h5 (J 0)
    · refine y_iconst (v := (J 1)) d_R_gates_24 rfl ?_
      refine y_goto (tgt := 29) d_R_gates_25 (by decide) ?_
      exact Hj7 h5 (J 1)
noncomputable def P_R_setGate (Θ : mW) (N : Nat) (h : mH) (a0 : Nat) (a1 : Int32) : Option (Int32 × mH) :=
  (gO Θ h 9 a0 (bc (P_R_begins Θ N h a0) (fun v2 h1 => (jn (fun (h4 : mH) (s5 : Int32) => (gO Θ h4 9 a0 (bc (P_R_gates Θ N h4 a0 s5) (fun v7 h6 => (gO Θ h6 9 a0 (bc (P_R_ends Θ N h6 a0 v7) (fun v9 h8 => (if v9 = (J 1) then (some ((J 1), h8)) else (some ((J 0), h8)))))))))) (fun j3 => (if a1 = 0 then (j3 h1 (J 0)) else (j3 h1 (J 1))))))))
theorem S_R_setGate (hfl : HF l Θ) (hD : 4 ≤ d) (h : mH) (a0 : Nat) (a1 : Int32) : mMs l Θ d M_R_setGate [.ref a0, .int a1] h (tR vI) (P_R_setGate Θ N h a0 a1) := by
  refine mMs.of hfl (by decide +kernel) rfl (Nat.le_of_ble_eq_true rfl) (loc := [some (.ref a0), some (.int a1)]) rfl ?_
  unfold P_R_setGate
  refine y_aload_n d_R_setGate_0 rfl ?_
  refine y_gO (fun fs1 g1 => y_cU (c_vi (rest := []) d_R_setGate_1 k_R_begins s_R_94 (Or.inl ⟨_, _, _, g1, rfl, rfl⟩) rfl rfl (Nat.le_of_ble_eq_true rfl) (Nat.le_trans (Nat.le_of_ble_eq_true rfl : 2 + 1 ≤ 4) hD) (S_R_begins hfl (Nat.le_refl _) h a0)) (fun v2 h1 => ?_))
  refine y_aload_n d_R_setGate_4 rfl ?_
  refine y_aload_n d_R_setGate_5 rfl ?_
  refine y_iload_n d_R_setGate_6 rfl ?_
  refine y_jn (C := fun (j9 : mH → Int32 → Option (Int32 × mH)) => ∀ (h4 : mH) (s5 : Int32), mY l Θ d M_R_setGate 15 [none, none] [.int s5, .ref a0, .ref a0] h4 (tR vI) (j9 h4 s5)) (fun h4 s5 => ?_) (fun j3 Hj3 => ?_)
  · refine y_gO (fun fs1 g1 => y_cI (c_vi (rest := [.ref a0]) d_R_setGate_15 k_R_gates s_R_146 (Or.inl ⟨_, _, _, g1, rfl, rfl⟩) rfl rfl (Nat.le_of_ble_eq_true rfl) (Nat.le_trans (Nat.le_of_ble_eq_true rfl : 3 + 1 ≤ 4) hD) (S_R_gates hfl (Nat.le_refl _) h4 a0 s5)) (fun v7 h6 => ?_))
    refine y_gO (fun fs1 g1 => y_cI (c_vi (rest := []) d_R_setGate_18 k_R_ends s_R_101 (Or.inl ⟨_, _, _, g1, rfl, rfl⟩) rfl rfl (Nat.le_of_ble_eq_true rfl) (Nat.le_trans (Nat.le_of_ble_eq_true rfl : 3 + 1 ≤ 4) hD) (S_R_ends hfl (Nat.le_refl _) h6 a0 v7)) (fun v9 h8 => ?_))
    refine y_iconst (v := (J 1)) d_R_setGate_21 rfl ?_
    refine y_icmp_ne (tgt := 29) d_R_setGate_22 (by decide) ?_ ?_
    · refine y_iconst (v := (J 0)) d_R_setGate_29 rfl ?_
      exact y_retI d_R_setGate_30 rfl (by decide +kernel)
    · refine y_iconst (v := (J 1)) d_R_setGate_25 rfl ?_
      refine y_goto (tgt := 30) d_R_setGate_26 (by decide) ?_
      exact y_retI d_R_setGate_30 rfl (by decide +kernel)
  · refine y_if_eq (tgt := 14) d_R_setGate_7 (by decide) ?_ ?_
    · refine y_iconst (v := (J 0)) d_R_setGate_14 rfl ?_
      exact y_wk (loc2 := [none, none]) trivial (Hj3 h1 (J 0))
    · refine y_iconst (v := (J 1)) d_R_setGate_10 rfl ?_
      refine y_goto (tgt := 15) d_R_setGate_11 (by decide) ?_
      exact y_wk (loc2 := [none, none]) trivial (Hj3 h1 (J 1))
noncomputable def P_R_pumps (Θ : mW) (N : Nat) (h : mH) (a0 : Nat) (a1 : Int32) : Option (Int32 × mH) :=
  (bo (rA Θ h 9 a0 0) (fun v1 => (bo (aR Θ h 0 v1 (J 3)) (fun v2 => (bc (P_R_isIn Θ N h a1 (J (-30)) (J 30)) (fun v4 h3 => (gO Θ h3 9 a0 (bc (P_R_goes Θ N h3 a0 v4) (fun v6 h5 => (if v6 = 0 then (some (v2, h5)) else (bo (rA Θ h5 9 a0 0) (fun v7 => (bo (aW Θ h5 0 v7 (J 3) a1) (fun h8 => (some (v2, h8))))))))))))))))
theorem S_R_pumps (hfl : HF l Θ) (hD : 3 ≤ d) (h : mH) (a0 : Nat) (a1 : Int32) : mMs l Θ d M_R_pumps [.ref a0, .int a1] h (tR vI) (P_R_pumps Θ N h a0 a1) := by
  refine mMs.of hfl (by decide +kernel) rfl (Nat.le_of_ble_eq_true rfl) (loc := [some (.ref a0), some (.int a1), none]) rfl ?_
  unfold P_R_pumps
  refine y_aload_n d_R_pumps_0 rfl ?_
  refine y_getA d_R_pumps_1 f_R_9 (fun v1 => ?_)
  refine y_iconst (v := (J 3)) d_R_pumps_4 rfl ?_
  refine y_iald d_R_pumps_5 (fun v2 => ?_)
  refine y_istore_n (loc2 := [some (.ref a0), some (.int a1), some (.int v2)]) d_R_pumps_6 (Nat.le_of_ble_eq_true rfl) rfl rfl ?_
  refine y_aload_n d_R_pumps_7 rfl ?_
  refine y_iload_n d_R_pumps_8 rfl ?_
  refine y_bipush (v := (J (-30))) d_R_pumps_9 (by decide +kernel) ?_
  refine y_bipush (v := (J 30)) d_R_pumps_11 (by decide +kernel) ?_
  refine y_cI (c_st (rest := [.ref a0]) d_R_pumps_13 k_R_isIn s_R_83 rfl rfl (Nat.le_of_ble_eq_true rfl) (Nat.le_trans (Nat.le_of_ble_eq_true rfl : 1 + 1 ≤ 3) hD) (S_R_isIn hfl (Nat.le_refl _) h a1 (J (-30)) (J 30))) (fun v4 h3 => ?_)
  refine y_gO (fun fs1 g1 => y_cI (c_vi (rest := []) d_R_pumps_16 k_R_goes s_R_59 (Or.inl ⟨_, _, _, g1, rfl, rfl⟩) rfl rfl (Nat.le_of_ble_eq_true rfl) (Nat.le_trans (Nat.le_of_ble_eq_true rfl : 2 + 1 ≤ 3) hD) (S_R_goes hfl (Nat.le_refl _) h3 a0 v4)) (fun v6 h5 => ?_))
  refine y_if_eq (tgt := 29) d_R_pumps_19 (by decide) ?_ ?_
  · refine y_iload_n d_R_pumps_29 rfl ?_
    exact y_retI d_R_pumps_30 rfl rfl
  · refine y_aload_n d_R_pumps_22 rfl ?_
    refine y_getA d_R_pumps_23 f_R_9 (fun v7 => ?_)
    refine y_iconst (v := (J 3)) d_R_pumps_26 rfl ?_
    refine y_iload_n d_R_pumps_27 rfl ?_
    refine y_iast d_R_pumps_28 (fun h8 => ?_)
    refine y_iload_n d_R_pumps_29 rfl ?_
    exact y_retI d_R_pumps_30 rfl rfl
noncomputable def P_R_setPump (Θ : mW) (N : Nat) (h : mH) (a0 : Nat) (a1 : Int32) : Option (Int32 × mH) :=
  (gO Θ h 9 a0 (bc (P_R_begins Θ N h a0) (fun v2 h1 => (gO Θ h1 9 a0 (bc (P_R_pumps Θ N h1 a0 a1) (fun v4 h3 => (gO Θ h3 9 a0 (bc (P_R_ends Θ N h3 a0 v4) (fun v6 h5 => (some (v6, h5)))))))))))
theorem S_R_setPump (hfl : HF l Θ) (hD : 4 ≤ d) (h : mH) (a0 : Nat) (a1 : Int32) : mMs l Θ d M_R_setPump [.ref a0, .int a1] h (tR vI) (P_R_setPump Θ N h a0 a1) := by
  refine mMs.of hfl (by decide +kernel) rfl (Nat.le_of_ble_eq_true rfl) (loc := [some (.ref a0), some (.int a1)]) rfl ?_
  unfold P_R_setPump
  refine y_aload_n d_R_setPump_0 rfl ?_
  refine y_gO (fun fs1 g1 => y_cU (c_vi (rest := []) d_R_setPump_1 k_R_begins s_R_94 (Or.inl ⟨_, _, _, g1, rfl, rfl⟩) rfl rfl (Nat.le_of_ble_eq_true rfl) (Nat.le_trans (Nat.le_of_ble_eq_true rfl : 2 + 1 ≤ 4) hD) (S_R_begins hfl (Nat.le_refl _) h a0)) (fun v2 h1 => ?_))
  refine y_aload_n d_R_setPump_4 rfl ?_
  refine y_aload_n d_R_setPump_5 rfl ?_
  refine y_iload_n d_R_setPump_6 rfl ?_
  refine y_gO (fun fs1 g1 => y_cI (c_vi (rest := [.ref a0]) d_R_setPump_7 k_R_pumps s_R_149 (Or.inl ⟨_, _, _, g1, rfl, rfl⟩) rfl rfl (Nat.le_of_ble_eq_true rfl) (Nat.le_trans (Nat.le_of_ble_eq_true rfl : 3 + 1 ≤ 4) hD) (S_R_pumps hfl (Nat.le_refl _) h1 a0 a1)) (fun v4 h3 => ?_))
  refine y_gO (fun fs1 g1 => y_cI (c_vi (rest := []) d_R_setPump_10 k_R_ends s_R_101 (Or.inl ⟨_, _, _, g1, rfl, rfl⟩) rfl rfl (Nat.le_of_ble_eq_true rfl) (Nat.le_trans (Nat.le_of_ble_eq_true rfl : 3 + 1 ≤ 4) hD) (S_R_ends hfl (Nat.le_refl _) h3 a0 v4)) (fun v6 h5 => ?_))
  exact y_retI d_R_setPump_13 rfl rfl
noncomputable def B_R_blocks_4 (Θ : mW) (N : Nat) (K28 : mH → Int32 → Option (Int32 × mH)) (f0_ : Nat) (rc : mH → Int32 → Int32 → Option (Int32 × mH)) (h : mH) (v1_ : Int32) (v2_ : Int32) : Option (Int32 × mH) :=
  (if (J 60) ≤ v2_ then (K28 h v1_) else (bo (rA Θ h 9 f0_ 0) (fun v1 => (bo (aR Θ h 0 v1 ((J 80) + v2_)) (fun v2 => (rc h (v1_ + v2) (v2_ + (J 1))))))))
noncomputable def P_R_blocks_4 (Θ : mW) (N : Nat) (K28 : mH → Int32 → Option (Int32 × mH)) (f0_ : Nat) : Nat → mH → Int32 → Int32 → Option (Int32 × mH) :=
  lp (fun _ _ _ => none) (B_R_blocks_4 Θ N K28 f0_)
noncomputable def P_R_blocks (Θ : mW) (N : Nat) (h : mH) (a0 : Nat) : Option (Int32 × mH) :=
  (P_R_blocks_4 Θ N (fun h3 u4 => (some (u4, h3))) a0 N h (J 0) (J 0))
theorem SB_R_blocks_4 (hfl : HF l Θ) (hD : 1 ≤ d) {K28 : mH → Int32 → Option (Int32 × mH)} {f0_ : Nat}  (hK28 : ∀ (h : mH) (v1_ : Int32), mY l Θ d M_R_blocks 28 [none, some (.int v1_), none] [] h (tR vI) (K28 h v1_)) (rc : mH → Int32 → Int32 → Option (Int32 × mH)) (ih : ∀ (h : mH) (v1_ : Int32) (v2_ : Int32), mY l Θ d M_R_blocks 4 [some (.ref f0_), some (.int v1_), some (.int v2_)] [] h (tR vI) (rc h v1_ v2_)) : ∀ (h : mH) (v1_ : Int32) (v2_ : Int32), mY l Θ d M_R_blocks 4 [some (.ref f0_), some (.int v1_), some (.int v2_)] [] h (tR vI) (B_R_blocks_4 Θ N K28 f0_ rc h v1_ v2_) := by
  intro h v1_ v2_
  unfold B_R_blocks_4
  refine y_iload_n d_R_blocks_4 rfl ?_
  refine y_bipush (v := (J 60)) d_R_blocks_5 (by decide +kernel) ?_
  refine y_icmp_ge (tgt := 28) d_R_blocks_7 (by decide) ?_ ?_
  · exact y_wk (loc2 := [none, some (.int v1_), none]) ⟨rfl, trivial⟩ (hK28 h v1_)
  · refine y_iload_n d_R_blocks_10 rfl ?_
    refine y_aload_n d_R_blocks_11 rfl ?_
    refine y_getA d_R_blocks_12 f_R_9 (fun v1 => ?_)
    refine y_bipush (v := (J 80)) d_R_blocks_15 (by decide +kernel) ?_
    refine y_iload_n d_R_blocks_17 rfl ?_
    refine y_iadd (v := ((J 80) + v2_)) d_R_blocks_18 rfl ?_
    refine y_iald d_R_blocks_19 (fun v2 => ?_)
    refine y_iadd (v := (v1_ + v2)) d_R_blocks_20 rfl ?_
    refine y_istore_n (loc2 := [some (.ref f0_), some (.int (v1_ + v2)), some (.int v2_)]) d_R_blocks_21 (Nat.le_of_ble_eq_true rfl) rfl rfl ?_
    refine y_iinc (v := (v2_ + (J 1))) (loc2 := [some (.ref f0_), some (.int (v1_ + v2)), some (.int (v2_ + (J 1)))]) d_R_blocks_22 rfl rfl (Nat.le_of_ble_eq_true rfl) rfl rfl ?_
    refine y_goto (tgt := 4) d_R_blocks_25 (by decide) ?_
    exact ih h (v1_ + v2) (v2_ + (J 1))
theorem S_R_blocks_4 (hfl : HF l Θ) (hD : 1 ≤ d) {K28 : mH → Int32 → Option (Int32 × mH)} {f0_ : Nat}  (hK28 : ∀ (h : mH) (v1_ : Int32), mY l Θ d M_R_blocks 28 [none, some (.int v1_), none] [] h (tR vI) (K28 h v1_)) : ∀ (n : Nat) (h : mH) (v1_ : Int32) (v2_ : Int32), mY l Θ d M_R_blocks 4 [some (.ref f0_), some (.int v1_), some (.int v2_)] [] h (tR vI) (P_R_blocks_4 Θ N K28 f0_ n h v1_ v2_) :=
  fun n => lp_all (C := fun (rc : mH → Int32 → Int32 → Option (Int32 × mH)) => ∀ (h : mH) (v1_ : Int32) (v2_ : Int32), mY l Θ d M_R_blocks 4 [some (.ref f0_), some (.int v1_), some (.int v2_)] [] h (tR vI) (rc h v1_ v2_)) (fun _ _ _ => y_none) (fun rc ih => SB_R_blocks_4 hfl hD hK28 rc ih) n
theorem S_R_blocks (hfl : HF l Θ) (hD : 1 ≤ d) (h : mH) (a0 : Nat) : mMs l Θ d M_R_blocks [.ref a0] h (tR vI) (P_R_blocks Θ N h a0) := by
  refine mMs.of hfl (by decide +kernel) rfl (Nat.le_of_ble_eq_true rfl) (loc := [some (.ref a0), none, none]) rfl ?_
  unfold P_R_blocks
  refine y_iconst (v := (J 0)) d_R_blocks_0 rfl ?_
  refine y_istore_n (loc2 := [some (.ref a0), some (.int (J 0)), none]) d_R_blocks_1 (Nat.le_of_ble_eq_true rfl) rfl rfl ?_
  refine y_iconst (v := (J 0)) d_R_blocks_2 rfl ?_
  refine y_istore_n (loc2 := [some (.ref a0), some (.int (J 0)), some (.int (J 0))]) d_R_blocks_3 (Nat.le_of_ble_eq_true rfl) rfl rfl ?_
  refine S_R_blocks_4 hfl hD (fun h3 u4 => ?_) N h (J 0) (J 0)
  refine y_iload_n d_R_blocks_28 rfl ?_
  exact y_retI d_R_blocks_29 rfl rfl
noncomputable def P_R_isBlock (Θ : mW) (N : Nat) (h : mH) (a0 : Nat) (a1 : Int32) : Option (Int32 × mH) :=
  (bc (P_R_isMetre Θ N h a1) (fun v2 h1 => (if v2 = 0 then (some ((J 0), h1)) else (bo (rA Θ h1 9 a0 0) (fun v3 => (bo (aR Θ h1 0 v3 ((J 80) + a1)) (fun v4 => (if v4 = (J 1) then (some ((J 1), h1)) else (some ((J 0), h1))))))))))
theorem S_R_isBlock (hfl : HF l Θ) (hD : 3 ≤ d) (h : mH) (a0 : Nat) (a1 : Int32) : mMs l Θ d M_R_isBlock [.ref a0, .int a1] h (tR vI) (P_R_isBlock Θ N h a0 a1) := by
  refine mMs.of hfl (by decide +kernel) rfl (Nat.le_of_ble_eq_true rfl) (loc := [some (.ref a0), some (.int a1)]) rfl ?_
  unfold P_R_isBlock
  refine y_iload_n d_R_isBlock_0 rfl ?_
  refine y_cI (c_st (rest := []) d_R_isBlock_1 k_R_isMetre s_R_91 rfl rfl (Nat.le_of_ble_eq_true rfl) (Nat.le_trans (Nat.le_of_ble_eq_true rfl : 2 + 1 ≤ 3) hD) (S_R_isMetre hfl (Nat.le_refl _) h a1)) (fun v2 h1 => ?_)
  refine y_if_eq (tgt := 24) d_R_isBlock_4 (by decide) ?_ ?_
  · refine y_iconst (v := (J 0)) d_R_isBlock_24 rfl ?_
    exact y_retI d_R_isBlock_25 rfl (by decide +kernel)
  · refine y_aload_n d_R_isBlock_7 rfl ?_
    refine y_getA d_R_isBlock_8 f_R_9 (fun v3 => ?_)
    refine y_bipush (v := (J 80)) d_R_isBlock_11 (by decide +kernel) ?_
    refine y_iload_n d_R_isBlock_13 rfl ?_
    refine y_iadd (v := ((J 80) + a1)) d_R_isBlock_14 rfl ?_
    refine y_iald d_R_isBlock_15 (fun v4 => ?_)
    refine y_iconst (v := (J 1)) d_R_isBlock_16 rfl ?_
    refine y_icmp_ne (tgt := 24) d_R_isBlock_17 (by decide) ?_ ?_
    · refine y_iconst (v := (J 0)) d_R_isBlock_24 rfl ?_
      exact y_retI d_R_isBlock_25 rfl (by decide +kernel)
    · refine y_iconst (v := (J 1)) d_R_isBlock_20 rfl ?_
      refine y_goto (tgt := 25) d_R_isBlock_21 (by decide) ?_
      exact y_retI d_R_isBlock_25 rfl (by decide +kernel)
noncomputable def P_R_lays (Θ : mW) (N : Nat) (h : mH) (a0 : Nat) (a1 : Int32) : Option (Int32 × mH) :=
  (gO Θ h 9 a0 (bc (P_R_blocks Θ N h a0) (fun v2 h1 => (jn (fun (h4 : mH) (s5 : Int32) => (bc (P_R_isMetre Θ N h4 a1) (fun v7 h6 => (bo (rA Θ h6 9 a0 0) (fun v8 => (bo (aR Θ h6 0 v8 (J 1)) (fun v9 => (jn (fun (h11 : mH) (s12 : Int32) => (gO Θ h11 9 a0 (bc (P_R_holds Θ N h11 a0 v7 s5 s12 (J 1)) (fun v14 h13 => (if v14 = 0 then (some ((J 0), h13)) else (bo (rA Θ h13 9 a0 0) (fun v15 => (bo (aW Θ h13 0 v15 ((J 80) + a1) (J 1)) (fun h16 => (gO Θ h16 9 a0 (bc (P_R_blocks Θ N h16 a0) (fun v18 h17 => (some (v18, h17)))))))))))))) (fun j10 => (jn (fun (h20 : mH) => (j10 h20 (J 0))) (fun j19 => (if (J 30) < v9 then (j19 h6) else (gO Θ h6 9 a0 (bc (P_R_at Θ N h6 a0 a1) (fun v22 h21 => (if v22 = (J (-1)) then (j10 h21 (J 1)) else (j19 h21))))))))))))))))) (fun j3 => (jn (fun (h24 : mH) => (j3 h24 (J 0))) (fun j23 => (if (J 20) ≤ v2 then (j23 h1) else (gO Θ h1 9 a0 (bc (P_R_isBlock Θ N h1 a0 a1) (fun v26 h25 => (if v26 = 0 then (j3 h25 (J 1)) else (j23 h25)))))))))))))
theorem S_R_lays (hfl : HF l Θ) (hD : 5 ≤ d) (h : mH) (a0 : Nat) (a1 : Int32) : mMs l Θ d M_R_lays [.ref a0, .int a1] h (tR vI) (P_R_lays Θ N h a0 a1) := by
  refine mMs.of hfl (by decide +kernel) rfl (Nat.le_of_ble_eq_true rfl) (loc := [some (.ref a0), some (.int a1), none]) rfl ?_
  unfold P_R_lays
  refine y_aload_n d_R_lays_0 rfl ?_
  refine y_gO (fun fs1 g1 => y_cI (c_vi (rest := []) d_R_lays_1 k_R_blocks s_R_152 (Or.inl ⟨_, _, _, g1, rfl, rfl⟩) rfl rfl (Nat.le_of_ble_eq_true rfl) (Nat.le_trans (Nat.le_of_ble_eq_true rfl : 1 + 1 ≤ 5) hD) (S_R_blocks hfl (Nat.le_refl _) h a0)) (fun v2 h1 => ?_))
  refine y_bipush (v := (J 20)) d_R_lays_4 (by decide +kernel) ?_
  refine y_jn (C := fun (j9 : mH → Int32 → Option (Int32 × mH)) => ∀ (h4 : mH) (s5 : Int32), mY l Θ d M_R_lays 22 [some (.ref a0), some (.int a1), none] [.int s5] h4 (tR vI) (j9 h4 s5)) (fun h4 s5 => ?_) (fun j3 Hj3 => ?_)
  · refine y_istore_n (loc2 := [some (.ref a0), some (.int a1), some (.int s5)]) d_R_lays_22 (Nat.le_of_ble_eq_true rfl) rfl rfl ?_
    refine y_aload_n d_R_lays_23 rfl ?_
    refine y_iload_n d_R_lays_24 rfl ?_
    refine y_cI (c_st (rest := [.ref a0]) d_R_lays_25 k_R_isMetre s_R_91 rfl rfl (Nat.le_of_ble_eq_true rfl) (Nat.le_trans (Nat.le_of_ble_eq_true rfl : 2 + 1 ≤ 5) hD) (S_R_isMetre hfl (Nat.le_refl _) h4 a1)) (fun v7 h6 => ?_)
    refine y_iload_n d_R_lays_28 rfl ?_
    refine y_aload_n d_R_lays_29 rfl ?_
    refine y_getA d_R_lays_30 f_R_9 (fun v8 => ?_)
    refine y_iconst (v := (J 1)) d_R_lays_33 rfl ?_
    refine y_iald d_R_lays_34 (fun v9 => ?_)
    refine y_bipush (v := (J 30)) d_R_lays_35 (by decide +kernel) ?_
    refine y_jn (C := fun (j9 : mH → Int32 → Option (Int32 × mH)) => ∀ (h11 : mH) (s12 : Int32), mY l Θ d M_R_lays 54 [some (.ref a0), some (.int a1), none] [.int s12, .int s5, .int v7, .ref a0] h11 (tR vI) (j9 h11 s12)) (fun h11 s12 => ?_) (fun j10 Hj10 => ?_)
    · refine y_iconst (v := (J 1)) d_R_lays_54 rfl ?_
      refine y_gO (fun fs1 g1 => y_cI (c_vi (rest := []) d_R_lays_55 k_R_holds s_R_45 (Or.inl ⟨_, _, _, g1, rfl, rfl⟩) rfl rfl (Nat.le_of_ble_eq_true rfl) (Nat.le_trans (Nat.le_of_ble_eq_true rfl : 1 + 1 ≤ 5) hD) (S_R_holds hfl (Nat.le_refl _) h11 a0 v7 s5 s12 (J 1))) (fun v14 h13 => ?_))
      refine y_if_ne (tgt := 63) d_R_lays_58 (by decide) ?_ ?_
      · refine y_aload_n d_R_lays_63 rfl ?_
        refine y_getA d_R_lays_64 f_R_9 (fun v15 => ?_)
        refine y_bipush (v := (J 80)) d_R_lays_67 (by decide +kernel) ?_
        refine y_iload_n d_R_lays_69 rfl ?_
        refine y_iadd (v := ((J 80) + a1)) d_R_lays_70 rfl ?_
        refine y_iconst (v := (J 1)) d_R_lays_71 rfl ?_
        refine y_iast d_R_lays_72 (fun h16 => ?_)
        refine y_aload_n d_R_lays_73 rfl ?_
        refine y_gO (fun fs1 g1 => y_cI (c_vi (rest := []) d_R_lays_74 k_R_blocks s_R_152 (Or.inl ⟨_, _, _, g1, rfl, rfl⟩) rfl rfl (Nat.le_of_ble_eq_true rfl) (Nat.le_trans (Nat.le_of_ble_eq_true rfl : 1 + 1 ≤ 5) hD) (S_R_blocks hfl (Nat.le_refl _) h16 a0)) (fun v18 h17 => ?_))
        exact y_retI d_R_lays_77 rfl rfl
      · refine y_iconst (v := (J 0)) d_R_lays_61 rfl ?_
        exact y_retI d_R_lays_62 rfl rfl
    · refine y_jn (C := fun (j9 : mH → Option (Int32 × mH)) => ∀ (h20 : mH), mY l Θ d M_R_lays 53 [some (.ref a0), some (.int a1), none] [.int s5, .int v7, .ref a0] h20 (tR vI) (j9 h20)) (fun h20 => ?_) (fun j19 Hj19 => ?_)
      · refine y_iconst (v := (J 0)) d_R_lays_53 rfl ?_
        exact Hj10 h20 (J 0)
      · refine y_icmp_gt (tgt := 53) d_R_lays_37 (by decide) ?_ ?_
        · exact y_wk (loc2 := [some (.ref a0), some (.int a1), none]) ⟨rfl, ⟨rfl, trivial⟩⟩ (Hj19 h6)
        · refine y_aload_n d_R_lays_40 rfl ?_
          refine y_iload_n d_R_lays_41 rfl ?_
          refine y_gO (fun fs1 g1 => y_cI (c_vi (rest := [.int s5, .int v7, .ref a0]) d_R_lays_42 k_R_at s_R_87 (Or.inl ⟨_, _, _, g1, rfl, rfl⟩) rfl rfl (Nat.le_of_ble_eq_true rfl) (Nat.le_trans (Nat.le_of_ble_eq_true rfl : 4 + 1 ≤ 5) hD) (S_R_at hfl (Nat.le_refl _) h6 a0 a1)) (fun v22 h21 => ?_))
          refine y_iconst (v := (J (-1))) d_R_lays_45 rfl ?_
          refine y_icmp_ne (tgt := 53) d_R_lays_46 (by decide) ?_ ?_
          · exact y_wk (loc2 := [some (.ref a0), some (.int a1), none]) ⟨rfl, ⟨rfl, trivial⟩⟩ (Hj19 h21)
          · refine y_iconst (v := (J 1)) d_R_lays_49 rfl ?_
            refine y_goto (tgt := 54) d_R_lays_50 (by decide) ?_
            exact y_wk (loc2 := [some (.ref a0), some (.int a1), none]) ⟨rfl, ⟨rfl, trivial⟩⟩ (Hj10 h21 (J 1))
  · refine y_jn (C := fun (j9 : mH → Option (Int32 × mH)) => ∀ (h24 : mH), mY l Θ d M_R_lays 21 [some (.ref a0), some (.int a1), none] [] h24 (tR vI) (j9 h24)) (fun h24 => ?_) (fun j23 Hj23 => ?_)
    · refine y_iconst (v := (J 0)) d_R_lays_21 rfl ?_
      exact Hj3 h24 (J 0)
    · refine y_icmp_ge (tgt := 21) d_R_lays_6 (by decide) ?_ ?_
      · exact Hj23 h1
      · refine y_aload_n d_R_lays_9 rfl ?_
        refine y_iload_n d_R_lays_10 rfl ?_
        refine y_gO (fun fs1 g1 => y_cI (c_vi (rest := []) d_R_lays_11 k_R_isBlock s_R_155 (Or.inl ⟨_, _, _, g1, rfl, rfl⟩) rfl rfl (Nat.le_of_ble_eq_true rfl) (Nat.le_trans (Nat.le_of_ble_eq_true rfl : 3 + 1 ≤ 5) hD) (S_R_isBlock hfl (Nat.le_refl _) h1 a0 a1)) (fun v26 h25 => ?_))
        refine y_if_ne (tgt := 21) d_R_lays_14 (by decide) ?_ ?_
        · exact Hj23 h25
        · refine y_iconst (v := (J 1)) d_R_lays_17 rfl ?_
          refine y_goto (tgt := 22) d_R_lays_18 (by decide) ?_
          exact Hj3 h25 (J 1)
noncomputable def P_R_placeBlock (Θ : mW) (N : Nat) (h : mH) (a0 : Nat) (a1 : Int32) : Option (Int32 × mH) :=
  (gO Θ h 9 a0 (bc (P_R_begins Θ N h a0) (fun v2 h1 => (gO Θ h1 9 a0 (bc (P_R_lays Θ N h1 a0 a1) (fun v4 h3 => (gO Θ h3 9 a0 (bc (P_R_ends Θ N h3 a0 v4) (fun v6 h5 => (some (v6, h5)))))))))))
theorem S_R_placeBlock (hfl : HF l Θ) (hD : 6 ≤ d) (h : mH) (a0 : Nat) (a1 : Int32) : mMs l Θ d M_R_placeBlock [.ref a0, .int a1] h (tR vI) (P_R_placeBlock Θ N h a0 a1) := by
  refine mMs.of hfl (by decide +kernel) rfl (Nat.le_of_ble_eq_true rfl) (loc := [some (.ref a0), some (.int a1)]) rfl ?_
  unfold P_R_placeBlock
  refine y_aload_n d_R_placeBlock_0 rfl ?_
  refine y_gO (fun fs1 g1 => y_cU (c_vi (rest := []) d_R_placeBlock_1 k_R_begins s_R_94 (Or.inl ⟨_, _, _, g1, rfl, rfl⟩) rfl rfl (Nat.le_of_ble_eq_true rfl) (Nat.le_trans (Nat.le_of_ble_eq_true rfl : 2 + 1 ≤ 6) hD) (S_R_begins hfl (Nat.le_refl _) h a0)) (fun v2 h1 => ?_))
  refine y_aload_n d_R_placeBlock_4 rfl ?_
  refine y_aload_n d_R_placeBlock_5 rfl ?_
  refine y_iload_n d_R_placeBlock_6 rfl ?_
  refine y_gO (fun fs1 g1 => y_cI (c_vi (rest := [.ref a0]) d_R_placeBlock_7 k_R_lays s_R_158 (Or.inl ⟨_, _, _, g1, rfl, rfl⟩) rfl rfl (Nat.le_of_ble_eq_true rfl) (Nat.le_trans (Nat.le_of_ble_eq_true rfl : 5 + 1 ≤ 6) hD) (S_R_lays hfl (Nat.le_refl _) h1 a0 a1)) (fun v4 h3 => ?_))
  refine y_gO (fun fs1 g1 => y_cI (c_vi (rest := []) d_R_placeBlock_10 k_R_ends s_R_101 (Or.inl ⟨_, _, _, g1, rfl, rfl⟩) rfl rfl (Nat.le_of_ble_eq_true rfl) (Nat.le_trans (Nat.le_of_ble_eq_true rfl : 3 + 1 ≤ 6) hD) (S_R_ends hfl (Nat.le_refl _) h3 a0 v4)) (fun v6 h5 => ?_))
  exact y_retI d_R_placeBlock_13 rfl rfl
noncomputable def P_R_takes (Θ : mW) (N : Nat) (h : mH) (a0 : Nat) (a1 : Int32) : Option (Int32 × mH) :=
  (bc (P_R_isMetre Θ N h a1) (fun v2 h1 => (gO Θ h1 9 a0 (bc (P_R_isBlock Θ N h1 a0 a1) (fun v4 h3 => (bo (rA Θ h3 9 a0 0) (fun v5 => (bo (aR Θ h3 0 v5 (J 1)) (fun v6 => (jn (fun (h8 : mH) (s9 : Int32) => (gO Θ h8 9 a0 (bc (P_R_holds Θ N h8 a0 v2 v4 s9 (J 1)) (fun v11 h10 => (if v11 = 0 then (some ((J 0), h10)) else (bo (rA Θ h10 9 a0 0) (fun v12 => (bo (aW Θ h10 0 v12 ((J 80) + a1) (J 0)) (fun h13 => (gO Θ h13 9 a0 (bc (P_R_blocks Θ N h13 a0) (fun v15 h14 => (some (v15, h14)))))))))))))) (fun j7 => (jn (fun (h17 : mH) => (j7 h17 (J 0))) (fun j16 => (if (J 30) < v6 then (j16 h3) else (gO Θ h3 9 a0 (bc (P_R_at Θ N h3 a0 a1) (fun v19 h18 => (if v19 = (J (-1)) then (j7 h18 (J 1)) else (j16 h18)))))))))))))))))))
theorem S_R_takes (hfl : HF l Θ) (hD : 5 ≤ d) (h : mH) (a0 : Nat) (a1 : Int32) : mMs l Θ d M_R_takes [.ref a0, .int a1] h (tR vI) (P_R_takes Θ N h a0 a1) := by
  refine mMs.of hfl (by decide +kernel) rfl (Nat.le_of_ble_eq_true rfl) (loc := [some (.ref a0), some (.int a1)]) rfl ?_
  unfold P_R_takes
  refine y_aload_n d_R_takes_0 rfl ?_
  refine y_iload_n d_R_takes_1 rfl ?_
  refine y_cI (c_st (rest := [.ref a0]) d_R_takes_2 k_R_isMetre s_R_91 rfl rfl (Nat.le_of_ble_eq_true rfl) (Nat.le_trans (Nat.le_of_ble_eq_true rfl : 2 + 1 ≤ 5) hD) (S_R_isMetre hfl (Nat.le_refl _) h a1)) (fun v2 h1 => ?_)
  refine y_aload_n d_R_takes_5 rfl ?_
  refine y_iload_n d_R_takes_6 rfl ?_
  refine y_gO (fun fs1 g1 => y_cI (c_vi (rest := [.int v2, .ref a0]) d_R_takes_7 k_R_isBlock s_R_155 (Or.inl ⟨_, _, _, g1, rfl, rfl⟩) rfl rfl (Nat.le_of_ble_eq_true rfl) (Nat.le_trans (Nat.le_of_ble_eq_true rfl : 3 + 1 ≤ 5) hD) (S_R_isBlock hfl (Nat.le_refl _) h1 a0 a1)) (fun v4 h3 => ?_))
  refine y_aload_n d_R_takes_10 rfl ?_
  refine y_getA d_R_takes_11 f_R_9 (fun v5 => ?_)
  refine y_iconst (v := (J 1)) d_R_takes_14 rfl ?_
  refine y_iald d_R_takes_15 (fun v6 => ?_)
  refine y_bipush (v := (J 30)) d_R_takes_16 (by decide +kernel) ?_
  refine y_jn (C := fun (j9 : mH → Int32 → Option (Int32 × mH)) => ∀ (h8 : mH) (s9 : Int32), mY l Θ d M_R_takes 35 [some (.ref a0), some (.int a1)] [.int s9, .int v4, .int v2, .ref a0] h8 (tR vI) (j9 h8 s9)) (fun h8 s9 => ?_) (fun j7 Hj7 => ?_)
  · refine y_iconst (v := (J 1)) d_R_takes_35 rfl ?_
    refine y_gO (fun fs1 g1 => y_cI (c_vi (rest := []) d_R_takes_36 k_R_holds s_R_45 (Or.inl ⟨_, _, _, g1, rfl, rfl⟩) rfl rfl (Nat.le_of_ble_eq_true rfl) (Nat.le_trans (Nat.le_of_ble_eq_true rfl : 1 + 1 ≤ 5) hD) (S_R_holds hfl (Nat.le_refl _) h8 a0 v2 v4 s9 (J 1))) (fun v11 h10 => ?_))
    refine y_if_ne (tgt := 44) d_R_takes_39 (by decide) ?_ ?_
    · refine y_aload_n d_R_takes_44 rfl ?_
      refine y_getA d_R_takes_45 f_R_9 (fun v12 => ?_)
      refine y_bipush (v := (J 80)) d_R_takes_48 (by decide +kernel) ?_
      refine y_iload_n d_R_takes_50 rfl ?_
      refine y_iadd (v := ((J 80) + a1)) d_R_takes_51 rfl ?_
      refine y_iconst (v := (J 0)) d_R_takes_52 rfl ?_
      refine y_iast d_R_takes_53 (fun h13 => ?_)
      refine y_aload_n d_R_takes_54 rfl ?_
      refine y_gO (fun fs1 g1 => y_cI (c_vi (rest := []) d_R_takes_55 k_R_blocks s_R_152 (Or.inl ⟨_, _, _, g1, rfl, rfl⟩) rfl rfl (Nat.le_of_ble_eq_true rfl) (Nat.le_trans (Nat.le_of_ble_eq_true rfl : 1 + 1 ≤ 5) hD) (S_R_blocks hfl (Nat.le_refl _) h13 a0)) (fun v15 h14 => ?_))
      exact y_retI d_R_takes_58 rfl rfl
    · refine y_iconst (v := (J 0)) d_R_takes_42 rfl ?_
      exact y_retI d_R_takes_43 rfl rfl
  · refine y_jn (C := fun (j9 : mH → Option (Int32 × mH)) => ∀ (h17 : mH), mY l Θ d M_R_takes 34 [some (.ref a0), some (.int a1)] [.int v4, .int v2, .ref a0] h17 (tR vI) (j9 h17)) (fun h17 => ?_) (fun j16 Hj16 => ?_)
    · refine y_iconst (v := (J 0)) d_R_takes_34 rfl ?_
      exact Hj7 h17 (J 0)
    · refine y_icmp_gt (tgt := 34) d_R_takes_18 (by decide) ?_ ?_
      · exact Hj16 h3
      · refine y_aload_n d_R_takes_21 rfl ?_
        refine y_iload_n d_R_takes_22 rfl ?_
        refine y_gO (fun fs1 g1 => y_cI (c_vi (rest := [.int v4, .int v2, .ref a0]) d_R_takes_23 k_R_at s_R_87 (Or.inl ⟨_, _, _, g1, rfl, rfl⟩) rfl rfl (Nat.le_of_ble_eq_true rfl) (Nat.le_trans (Nat.le_of_ble_eq_true rfl : 4 + 1 ≤ 5) hD) (S_R_at hfl (Nat.le_refl _) h3 a0 a1)) (fun v19 h18 => ?_))
        refine y_iconst (v := (J (-1))) d_R_takes_26 rfl ?_
        refine y_icmp_ne (tgt := 34) d_R_takes_27 (by decide) ?_ ?_
        · exact Hj16 h18
        · refine y_iconst (v := (J 1)) d_R_takes_30 rfl ?_
          refine y_goto (tgt := 35) d_R_takes_31 (by decide) ?_
          exact Hj7 h18 (J 1)
noncomputable def P_R_removeBlock (Θ : mW) (N : Nat) (h : mH) (a0 : Nat) (a1 : Int32) : Option (Int32 × mH) :=
  (gO Θ h 9 a0 (bc (P_R_begins Θ N h a0) (fun v2 h1 => (gO Θ h1 9 a0 (bc (P_R_takes Θ N h1 a0 a1) (fun v4 h3 => (gO Θ h3 9 a0 (bc (P_R_ends Θ N h3 a0 v4) (fun v6 h5 => (some (v6, h5)))))))))))
theorem S_R_removeBlock (hfl : HF l Θ) (hD : 6 ≤ d) (h : mH) (a0 : Nat) (a1 : Int32) : mMs l Θ d M_R_removeBlock [.ref a0, .int a1] h (tR vI) (P_R_removeBlock Θ N h a0 a1) := by
  refine mMs.of hfl (by decide +kernel) rfl (Nat.le_of_ble_eq_true rfl) (loc := [some (.ref a0), some (.int a1)]) rfl ?_
  unfold P_R_removeBlock
  refine y_aload_n d_R_removeBlock_0 rfl ?_
  refine y_gO (fun fs1 g1 => y_cU (c_vi (rest := []) d_R_removeBlock_1 k_R_begins s_R_94 (Or.inl ⟨_, _, _, g1, rfl, rfl⟩) rfl rfl (Nat.le_of_ble_eq_true rfl) (Nat.le_trans (Nat.le_of_ble_eq_true rfl : 2 + 1 ≤ 6) hD) (S_R_begins hfl (Nat.le_refl _) h a0)) (fun v2 h1 => ?_))
  refine y_aload_n d_R_removeBlock_4 rfl ?_
  refine y_aload_n d_R_removeBlock_5 rfl ?_
  refine y_iload_n d_R_removeBlock_6 rfl ?_
  refine y_gO (fun fs1 g1 => y_cI (c_vi (rest := [.ref a0]) d_R_removeBlock_7 k_R_takes s_R_161 (Or.inl ⟨_, _, _, g1, rfl, rfl⟩) rfl rfl (Nat.le_of_ble_eq_true rfl) (Nat.le_trans (Nat.le_of_ble_eq_true rfl : 5 + 1 ≤ 6) hD) (S_R_takes hfl (Nat.le_refl _) h1 a0 a1)) (fun v4 h3 => ?_))
  refine y_gO (fun fs1 g1 => y_cI (c_vi (rest := []) d_R_removeBlock_10 k_R_ends s_R_101 (Or.inl ⟨_, _, _, g1, rfl, rfl⟩) rfl rfl (Nat.le_of_ble_eq_true rfl) (Nat.le_trans (Nat.le_of_ble_eq_true rfl : 3 + 1 ≤ 6) hD) (S_R_ends hfl (Nat.le_refl _) h3 a0 v4)) (fun v6 h5 => ?_))
  exact y_retI d_R_removeBlock_13 rfl rfl
noncomputable def P_R_levelThen (Θ : mW) (N : Nat) (h : mH) (a0 : Nat) (a1 : Int32) (a2 : Int32) : Option (Int32 × mH) :=
  (bo (rA Θ h 9 a0 0) (fun v1 => (bo (aR Θ h 0 v1 (J 2)) (fun v2 => (if v2 = 0 then (bo (rA Θ h 9 a0 0) (fun v5 => (bo (aR Θ h 0 v5 (J 3)) (fun v6 => (some ((mxI (J 0) (mnI (J 200) (a1 + v6))), h)))))) else (bc (P_R_seaAt Θ N h a2) (fun v4 h3 => (some ((a1 + (mxI (J (-20)) (mnI (J 20) (v4 - a1)))), h3)))))))))
theorem S_R_levelThen (hfl : HF l Θ) (hD : 2 ≤ d) (h : mH) (a0 : Nat) (a1 : Int32) (a2 : Int32) : mMs l Θ d M_R_levelThen [.ref a0, .int a1, .int a2] h (tR vI) (P_R_levelThen Θ N h a0 a1 a2) := by
  refine mMs.of hfl (by decide +kernel) rfl (Nat.le_of_ble_eq_true rfl) (loc := [some (.ref a0), some (.int a1), some (.int a2)]) rfl ?_
  unfold P_R_levelThen
  refine y_aload_n d_R_levelThen_0 rfl ?_
  refine y_getA d_R_levelThen_1 f_R_9 (fun v1 => ?_)
  refine y_iconst (v := (J 2)) d_R_levelThen_4 rfl ?_
  refine y_iald d_R_levelThen_5 (fun v2 => ?_)
  refine y_if_ne (tgt := 28) d_R_levelThen_6 (by decide) ?_ ?_
  · refine y_iload_n d_R_levelThen_28 rfl ?_
    refine y_bipush (v := (J (-20))) d_R_levelThen_29 (by decide +kernel) ?_
    refine y_bipush (v := (J 20)) d_R_levelThen_31 (by decide +kernel) ?_
    refine y_iload_n d_R_levelThen_33 rfl ?_
    refine y_cI (c_st (rest := [.int (J 20), .int (J (-20)), .int a1]) d_R_levelThen_34 k_R_seaAt s_R_140 rfl rfl (Nat.le_of_ble_eq_true rfl) (Nat.le_trans (Nat.le_of_ble_eq_true rfl : 1 + 1 ≤ 2) hD) (S_R_seaAt hfl (Nat.le_refl _) h a2)) (fun v4 h3 => ?_)
    refine y_iload_n d_R_levelThen_37 rfl ?_
    refine y_isub (v := (v4 - a1)) d_R_levelThen_38 rfl ?_
    refine y_mmin d_R_levelThen_39 s_R_164.1 s_R_164.2 k_MA_min.2.2.2.2.2 (mG (3, 30) (by decide +kernel)) (Nat.le_of_ble_eq_true rfl) (Nat.le_trans (Nat.le_of_ble_eq_true rfl) hD) ?_
    refine y_mmax d_R_levelThen_42 s_R_71.1 s_R_71.2 k_MA_max.2.2.2.2.2 (mG (2, 152) (by decide +kernel)) (Nat.le_of_ble_eq_true rfl) (Nat.le_trans (Nat.le_of_ble_eq_true rfl) hD) ?_
    refine y_iadd (v := (a1 + (mxI (J (-20)) (mnI (J 20) (v4 - a1))))) d_R_levelThen_45 rfl ?_
    exact y_retI d_R_levelThen_46 rfl rfl
  · refine y_iconst (v := (J 0)) d_R_levelThen_9 rfl ?_
    refine y_sipush (v := (J 200)) d_R_levelThen_10 (by decide +kernel) ?_
    refine y_iload_n d_R_levelThen_13 rfl ?_
    refine y_aload_n d_R_levelThen_14 rfl ?_
    refine y_getA d_R_levelThen_15 f_R_9 (fun v5 => ?_)
    refine y_iconst (v := (J 3)) d_R_levelThen_18 rfl ?_
    refine y_iald d_R_levelThen_19 (fun v6 => ?_)
    refine y_iadd (v := (a1 + v6)) d_R_levelThen_20 rfl ?_
    refine y_mmin d_R_levelThen_21 s_R_164.1 s_R_164.2 k_MA_min.2.2.2.2.2 (mG (3, 30) (by decide +kernel)) (Nat.le_of_ble_eq_true rfl) (Nat.le_trans (Nat.le_of_ble_eq_true rfl) hD) ?_
    refine y_mmax d_R_levelThen_24 s_R_71.1 s_R_71.2 k_MA_max.2.2.2.2.2 (mG (2, 152) (by decide +kernel)) (Nat.le_of_ble_eq_true rfl) (Nat.le_trans (Nat.le_of_ble_eq_true rfl) hD) ?_
    exact y_retI d_R_levelThen_27 rfl rfl
noncomputable def B_R_beneath_4 (Θ : mW) (N : Nat) (K41 : mH → Int32 → Option (Int32 × mH)) (f0_ : Nat) (f1_ : Int32) (rc : mH → Int32 → Int32 → Option (Int32 × mH)) (h : mH) (v2_ : Int32) (v3_ : Int32) : Option (Int32 × mH) :=
  (if (J 60) ≤ v3_ then (K41 h v2_) else (gO Θ h 9 f0_ (bc (P_R_at Θ N h f0_ v3_) (fun v2 h1 => (jn (fun (h4 : mH) (s5 : Int32) => (rc h4 (v2_ + s5) (v3_ + (J 1)))) (fun j3 => (if v2 = f1_ then (bo (rA Θ h1 9 f0_ 0) (fun v6 => (bo (aR Θ h1 0 v6 ((J 80) + v3_)) (fun v7 => (j3 h1 v7))))) else (j3 h1 (J 0)))))))))
noncomputable def P_R_beneath_4 (Θ : mW) (N : Nat) (K41 : mH → Int32 → Option (Int32 × mH)) (f0_ : Nat) (f1_ : Int32) : Nat → mH → Int32 → Int32 → Option (Int32 × mH) :=
  lp (fun _ _ _ => none) (B_R_beneath_4 Θ N K41 f0_ f1_)
noncomputable def P_R_beneath (Θ : mW) (N : Nat) (h : mH) (a0 : Nat) (a1 : Int32) : Option (Int32 × mH) :=
  (P_R_beneath_4 Θ N (fun h8 u9 => (gO Θ h8 9 a0 (bc (P_R_isDocked Θ N h8 a0 a1) (fun v11 h10 => (if v11 = 0 then (some ((J 0), h10)) else (some (u9, h10))))))) a0 a1 N h (J 0) (J 0))
theorem SB_R_beneath_4 (hfl : HF l Θ) (hD : 5 ≤ d) {K41 : mH → Int32 → Option (Int32 × mH)} {f0_ : Nat} {f1_ : Int32}  (hK41 : ∀ (h : mH) (v2_ : Int32), mY l Θ d M_R_beneath 41 [some (.ref f0_), some (.int f1_), some (.int v2_), none] [] h (tR vI) (K41 h v2_)) (rc : mH → Int32 → Int32 → Option (Int32 × mH)) (ih : ∀ (h : mH) (v2_ : Int32) (v3_ : Int32), mY l Θ d M_R_beneath 4 [some (.ref f0_), some (.int f1_), some (.int v2_), some (.int v3_)] [] h (tR vI) (rc h v2_ v3_)) : ∀ (h : mH) (v2_ : Int32) (v3_ : Int32), mY l Θ d M_R_beneath 4 [some (.ref f0_), some (.int f1_), some (.int v2_), some (.int v3_)] [] h (tR vI) (B_R_beneath_4 Θ N K41 f0_ f1_ rc h v2_ v3_) := by
  intro h v2_ v3_
  unfold B_R_beneath_4
  refine y_iload_n d_R_beneath_4 rfl ?_
  refine y_bipush (v := (J 60)) d_R_beneath_5 (by decide +kernel) ?_
  refine y_icmp_ge (tgt := 41) d_R_beneath_7 (by decide) ?_ ?_
  · exact y_wk (loc2 := [some (.ref f0_), some (.int f1_), some (.int v2_), none]) ⟨rfl, ⟨rfl, ⟨rfl, trivial⟩⟩⟩ (hK41 h v2_)
  · refine y_iload_n d_R_beneath_10 rfl ?_
    refine y_aload_n d_R_beneath_11 rfl ?_
    refine y_iload_n d_R_beneath_12 rfl ?_
    refine y_gO (fun fs1 g1 => y_cI (c_vi (rest := [.int v2_]) d_R_beneath_13 k_R_at s_R_87 (Or.inl ⟨_, _, _, g1, rfl, rfl⟩) rfl rfl (Nat.le_of_ble_eq_true rfl) (Nat.le_trans (Nat.le_of_ble_eq_true rfl : 4 + 1 ≤ 5) hD) (S_R_at hfl (Nat.le_refl _) h f0_ v3_)) (fun v2 h1 => ?_))
    refine y_iload_n d_R_beneath_16 rfl ?_
    refine y_jn (C := fun (j9 : mH → Int32 → Option (Int32 × mH)) => ∀ (h4 : mH) (s5 : Int32), mY l Θ d M_R_beneath 33 [some (.ref f0_), some (.int f1_), none, some (.int v3_)] [.int s5, .int v2_] h4 (tR vI) (j9 h4 s5)) (fun h4 s5 => ?_) (fun j3 Hj3 => ?_)
    · refine y_iadd (v := (v2_ + s5)) d_R_beneath_33 rfl ?_
      refine y_istore_n (loc2 := [some (.ref f0_), some (.int f1_), some (.int (v2_ + s5)), some (.int v3_)]) d_R_beneath_34 (Nat.le_of_ble_eq_true rfl) rfl rfl ?_
      refine y_iinc (v := (v3_ + (J 1))) (loc2 := [some (.ref f0_), some (.int f1_), some (.int (v2_ + s5)), some (.int (v3_ + (J 1)))]) d_R_beneath_35 rfl rfl (Nat.le_of_ble_eq_true rfl) rfl rfl ?_
      refine y_goto (tgt := 4) d_R_beneath_38 (by decide) ?_
      exact ih h4 (v2_ + s5) (v3_ + (J 1))
    · refine y_icmp_ne (tgt := 32) d_R_beneath_17 (by decide) ?_ ?_
      · refine y_iconst (v := (J 0)) d_R_beneath_32 rfl ?_
        exact y_wk (loc2 := [some (.ref f0_), some (.int f1_), none, some (.int v3_)]) ⟨rfl, ⟨rfl, ⟨rfl, trivial⟩⟩⟩ (Hj3 h1 (J 0))
      · refine y_aload_n d_R_beneath_20 rfl ?_
        refine y_getA d_R_beneath_21 f_R_9 (fun v6 => ?_)
        refine y_bipush (v := (J 80)) d_R_beneath_24 (by decide +kernel) ?_
        refine y_iload_n d_R_beneath_26 rfl ?_
        refine y_iadd (v := ((J 80) + v3_)) d_R_beneath_27 rfl ?_
        refine y_iald d_R_beneath_28 (fun v7 => ?_)
        refine y_goto (tgt := 33) d_R_beneath_29 (by decide) ?_
        exact y_wk (loc2 := [some (.ref f0_), some (.int f1_), none, some (.int v3_)]) ⟨rfl, ⟨rfl, ⟨rfl, trivial⟩⟩⟩ (Hj3 h1 v7)
theorem S_R_beneath_4 (hfl : HF l Θ) (hD : 5 ≤ d) {K41 : mH → Int32 → Option (Int32 × mH)} {f0_ : Nat} {f1_ : Int32}  (hK41 : ∀ (h : mH) (v2_ : Int32), mY l Θ d M_R_beneath 41 [some (.ref f0_), some (.int f1_), some (.int v2_), none] [] h (tR vI) (K41 h v2_)) : ∀ (n : Nat) (h : mH) (v2_ : Int32) (v3_ : Int32), mY l Θ d M_R_beneath 4 [some (.ref f0_), some (.int f1_), some (.int v2_), some (.int v3_)] [] h (tR vI) (P_R_beneath_4 Θ N K41 f0_ f1_ n h v2_ v3_) :=
  fun n => lp_all (C := fun (rc : mH → Int32 → Int32 → Option (Int32 × mH)) => ∀ (h : mH) (v2_ : Int32) (v3_ : Int32), mY l Θ d M_R_beneath 4 [some (.ref f0_), some (.int f1_), some (.int v2_), some (.int v3_)] [] h (tR vI) (rc h v2_ v3_)) (fun _ _ _ => y_none) (fun rc ih => SB_R_beneath_4 hfl hD hK41 rc ih) n
theorem S_R_beneath (hfl : HF l Θ) (hD : 5 ≤ d) (h : mH) (a0 : Nat) (a1 : Int32) : mMs l Θ d M_R_beneath [.ref a0, .int a1] h (tR vI) (P_R_beneath Θ N h a0 a1) := by
  refine mMs.of hfl (by decide +kernel) rfl (Nat.le_of_ble_eq_true rfl) (loc := [some (.ref a0), some (.int a1), none, none]) rfl ?_
  unfold P_R_beneath
  refine y_iconst (v := (J 0)) d_R_beneath_0 rfl ?_
  refine y_istore_n (loc2 := [some (.ref a0), some (.int a1), some (.int (J 0)), none]) d_R_beneath_1 (Nat.le_of_ble_eq_true rfl) rfl rfl ?_
  refine y_iconst (v := (J 0)) d_R_beneath_2 rfl ?_
  refine y_istore_n (loc2 := [some (.ref a0), some (.int a1), some (.int (J 0)), some (.int (J 0))]) d_R_beneath_3 (Nat.le_of_ble_eq_true rfl) rfl rfl ?_
  refine S_R_beneath_4 hfl hD (fun h8 u9 => ?_) N h (J 0) (J 0)
  refine y_aload_n d_R_beneath_41 rfl ?_
  refine y_iload_n d_R_beneath_42 rfl ?_
  refine y_gO (fun fs1 g1 => y_cI (c_vi (rest := []) d_R_beneath_43 k_R_isDocked s_R_79 (Or.inl ⟨_, _, _, g1, rfl, rfl⟩) rfl rfl (Nat.le_of_ble_eq_true rfl) (Nat.le_trans (Nat.le_of_ble_eq_true rfl : 3 + 1 ≤ 5) hD) (S_R_isDocked hfl (Nat.le_refl _) h8 a0 a1)) (fun v11 h10 => ?_))
  refine y_if_eq (tgt := 53) d_R_beneath_46 (by decide) ?_ ?_
  · refine y_iconst (v := (J 0)) d_R_beneath_53 rfl ?_
    exact y_retI d_R_beneath_54 rfl rfl
  · refine y_iload_n d_R_beneath_49 rfl ?_
    refine y_goto (tgt := 54) d_R_beneath_50 (by decide) ?_
    exact y_retI d_R_beneath_54 rfl rfl
noncomputable def P_R_charges (Θ : mW) (N : Nat) (h : mH) (a0 : Nat) (a1 : Int32) (a2 : Int32) : Option (Unit × mH) :=
  (bo (rA Θ h 9 a0 0) (fun v1 => (bc (P_R_place Θ N h a1 (J 8)) (fun v3 h2 => (bo (aR Θ h2 0 v1 v3) (fun v4 => (bo (aW Θ h2 0 v1 v3 (v4 + a2)) (fun h5 => (bo (rA Θ h5 9 a0 0) (fun v6 => (bo (aR Θ h5 0 v6 (J 6)) (fun v7 => (bo (aW Θ h5 0 v6 (J 6) (v7 + a2)) (fun h8 => (some ((), h8))))))))))))))))
theorem S_R_charges (hfl : HF l Θ) (hD : 2 ≤ d) (h : mH) (a0 : Nat) (a1 : Int32) (a2 : Int32) : mMs l Θ d M_R_charges [.ref a0, .int a1, .int a2] h (tR vU) (P_R_charges Θ N h a0 a1 a2) := by
  refine mMs.of hfl (by decide +kernel) rfl (Nat.le_of_ble_eq_true rfl) (loc := [some (.ref a0), some (.int a1), some (.int a2)]) rfl ?_
  unfold P_R_charges
  refine y_aload_n d_R_charges_0 rfl ?_
  refine y_getA d_R_charges_1 f_R_9 (fun v1 => ?_)
  refine y_iload_n d_R_charges_4 rfl ?_
  refine y_bipush (v := (J 8)) d_R_charges_5 (by decide +kernel) ?_
  refine y_cI (c_st (rest := [.ref v1]) d_R_charges_7 k_R_place s_R_76 rfl rfl (Nat.le_of_ble_eq_true rfl) (Nat.le_trans (Nat.le_of_ble_eq_true rfl : 1 + 1 ≤ 2) hD) (S_R_place hfl (Nat.le_refl _) h a1 (J 8))) (fun v3 h2 => ?_)
  refine y_dup2 d_R_charges_10 rfl rfl ?_
  refine y_iald d_R_charges_11 (fun v4 => ?_)
  refine y_iload_n d_R_charges_12 rfl ?_
  refine y_iadd (v := (v4 + a2)) d_R_charges_13 rfl ?_
  refine y_iast d_R_charges_14 (fun h5 => ?_)
  refine y_aload_n d_R_charges_15 rfl ?_
  refine y_getA d_R_charges_16 f_R_9 (fun v6 => ?_)
  refine y_bipush (v := (J 6)) d_R_charges_19 (by decide +kernel) ?_
  refine y_dup2 d_R_charges_21 rfl rfl ?_
  refine y_iald d_R_charges_22 (fun v7 => ?_)
  refine y_iload_n d_R_charges_23 rfl ?_
  refine y_iadd (v := (v7 + a2)) d_R_charges_24 rfl ?_
  refine y_iast d_R_charges_25 (fun h8 => ?_)
  exact y_retU d_R_charges_26 rfl
noncomputable def P_R_spends (Θ : mW) (N : Nat) (h : mH) (a0 : Nat) (a1 : Int32) : Option (Int32 × mH) :=
  (gO Θ h 9 a0 (bc (P_R_beneath Θ N h a0 a1) (fun v2 h1 => (gO Θ h1 9 a0 (bc (P_R_charges Θ N h1 a0 a1 (J 2)) (fun v4 h3 => (gO Θ h3 9 a0 (bc (P_R_floats Θ N h3 a0 a1) (fun v6 h5 => (if v6 = 0 then (if (J 2) ≤ v2 then (gO Θ h5 9 a0 (bc (P_R_of Θ N h5 a0 a1 (J 5)) (fun v8 h7 => (jn (fun (h10 : mH) (s11 : Int32) => (bo (rA Θ h10 9 a0 0) (fun v12 => (bc (P_R_place Θ N h10 a1 (J 3)) (fun v14 h13 => (bo (aR Θ h13 0 v12 v14) (fun v15 => (bo (aW Θ h13 0 v12 v14 (v15 - s11)) (fun h16 => (gO Θ h16 9 a0 (bc (P_R_charges Θ N h16 a0 a1 (v2 + ((J 3) * s11))) (fun v18 h17 => (some (s11, h17)))))))))))))) (fun j9 => (if v8 = (J 1) then (gO Θ h7 9 a0 (bc (P_R_of Θ N h7 a0 a1 (J 3)) (fun v20 h19 => (j9 h19 (mnI (J 3) v20))))) else (j9 h7 (J 0)))))))) else (bo (rA Θ h5 9 a0 0) (fun v21 => (bc (P_R_place Θ N h5 a1 (J 6)) (fun v23 h22 => (bo (aR Θ h22 0 v21 v23) (fun v24 => (bo (aW Θ h22 0 v21 v23 (v24 + (J 1))) (fun h25 => (some ((J 0), h25))))))))))) else (bo (rA Θ h5 9 a0 0) (fun v26 => (bc (P_R_place Θ N h5 a1 (J 7)) (fun v28 h27 => (bo (aR Θ h27 0 v26 v28) (fun v29 => (bo (aW Θ h27 0 v26 v28 (v29 + (J 1))) (fun h30 => (some ((J 0), h30))))))))))))))))))))
theorem S_R_spends (hfl : HF l Θ) (hD : 6 ≤ d) (h : mH) (a0 : Nat) (a1 : Int32) : mMs l Θ d M_R_spends [.ref a0, .int a1] h (tR vI) (P_R_spends Θ N h a0 a1) := by
  refine mMs.of hfl (by decide +kernel) rfl (Nat.le_of_ble_eq_true rfl) (loc := [some (.ref a0), some (.int a1), none, none]) rfl ?_
  unfold P_R_spends
  refine y_aload_n d_R_spends_0 rfl ?_
  refine y_iload_n d_R_spends_1 rfl ?_
  refine y_gO (fun fs1 g1 => y_cI (c_vi (rest := []) d_R_spends_2 k_R_beneath s_R_167 (Or.inl ⟨_, _, _, g1, rfl, rfl⟩) rfl rfl (Nat.le_of_ble_eq_true rfl) (Nat.le_trans (Nat.le_of_ble_eq_true rfl : 5 + 1 ≤ 6) hD) (S_R_beneath hfl (Nat.le_refl _) h a0 a1)) (fun v2 h1 => ?_))
  refine y_istore_n (loc2 := [some (.ref a0), some (.int a1), some (.int v2), none]) d_R_spends_5 (Nat.le_of_ble_eq_true rfl) rfl rfl ?_
  refine y_aload_n d_R_spends_6 rfl ?_
  refine y_iload_n d_R_spends_7 rfl ?_
  refine y_iconst (v := (J 2)) d_R_spends_8 rfl ?_
  refine y_gO (fun fs1 g1 => y_cU (c_vi (rest := []) d_R_spends_9 k_R_charges s_R_170 (Or.inl ⟨_, _, _, g1, rfl, rfl⟩) rfl rfl (Nat.le_of_ble_eq_true rfl) (Nat.le_trans (Nat.le_of_ble_eq_true rfl : 2 + 1 ≤ 6) hD) (S_R_charges hfl (Nat.le_refl _) h1 a0 a1 (J 2))) (fun v4 h3 => ?_))
  refine y_aload_n d_R_spends_12 rfl ?_
  refine y_iload_n d_R_spends_13 rfl ?_
  refine y_gO (fun fs1 g1 => y_cI (c_vi (rest := []) d_R_spends_14 k_R_floats s_R_128 (Or.inl ⟨_, _, _, g1, rfl, rfl⟩) rfl rfl (Nat.le_of_ble_eq_true rfl) (Nat.le_trans (Nat.le_of_ble_eq_true rfl : 4 + 1 ≤ 6) hD) (S_R_floats hfl (Nat.le_refl _) h3 a0 a1)) (fun v6 h5 => ?_))
  refine y_if_eq (tgt := 37) d_R_spends_17 (by decide) ?_ ?_
  · refine y_iload_n d_R_spends_37 rfl ?_
    refine y_iconst (v := (J 2)) d_R_spends_38 rfl ?_
    refine y_icmp_ge (tgt := 59) d_R_spends_39 (by decide) ?_ ?_
    · refine y_aload_n d_R_spends_59 rfl ?_
      refine y_iload_n d_R_spends_60 rfl ?_
      refine y_iconst (v := (J 5)) d_R_spends_61 rfl ?_
      refine y_gO (fun fs1 g1 => y_cI (c_vi (rest := []) d_R_spends_62 k_R_of s_R_67 (Or.inl ⟨_, _, _, g1, rfl, rfl⟩) rfl rfl (Nat.le_of_ble_eq_true rfl) (Nat.le_trans (Nat.le_of_ble_eq_true rfl : 2 + 1 ≤ 6) hD) (S_R_of hfl (Nat.le_refl _) h5 a0 a1 (J 5))) (fun v8 h7 => ?_))
      refine y_iconst (v := (J 1)) d_R_spends_65 rfl ?_
      refine y_jn (C := fun (j9 : mH → Int32 → Option (Int32 × mH)) => ∀ (h10 : mH) (s11 : Int32), mY l Θ d M_R_spends 83 [some (.ref a0), some (.int a1), some (.int v2), none] [.int s11] h10 (tR vI) (j9 h10 s11)) (fun h10 s11 => ?_) (fun j9 Hj9 => ?_)
      · refine y_istore_n (loc2 := [some (.ref a0), some (.int a1), some (.int v2), some (.int s11)]) d_R_spends_83 (Nat.le_of_ble_eq_true rfl) rfl rfl ?_
        refine y_aload_n d_R_spends_84 rfl ?_
        refine y_getA d_R_spends_85 f_R_9 (fun v12 => ?_)
        refine y_iload_n d_R_spends_88 rfl ?_
        refine y_iconst (v := (J 3)) d_R_spends_89 rfl ?_
        refine y_cI (c_st (rest := [.ref v12]) d_R_spends_90 k_R_place s_R_76 rfl rfl (Nat.le_of_ble_eq_true rfl) (Nat.le_trans (Nat.le_of_ble_eq_true rfl : 1 + 1 ≤ 6) hD) (S_R_place hfl (Nat.le_refl _) h10 a1 (J 3))) (fun v14 h13 => ?_)
        refine y_dup2 d_R_spends_93 rfl rfl ?_
        refine y_iald d_R_spends_94 (fun v15 => ?_)
        refine y_iload_n d_R_spends_95 rfl ?_
        refine y_isub (v := (v15 - s11)) d_R_spends_96 rfl ?_
        refine y_iast d_R_spends_97 (fun h16 => ?_)
        refine y_aload_n d_R_spends_98 rfl ?_
        refine y_iload_n d_R_spends_99 rfl ?_
        refine y_iload_n d_R_spends_100 rfl ?_
        refine y_iconst (v := (J 3)) d_R_spends_101 rfl ?_
        refine y_iload_n d_R_spends_102 rfl ?_
        refine y_imul (v := ((J 3) * s11)) d_R_spends_103 rfl ?_
        refine y_iadd (v := (v2 + ((J 3) * s11))) d_R_spends_104 rfl ?_
        refine y_gO (fun fs1 g1 => y_cU (c_vi (rest := []) d_R_spends_105 k_R_charges s_R_170 (Or.inl ⟨_, _, _, g1, rfl, rfl⟩) rfl rfl (Nat.le_of_ble_eq_true rfl) (Nat.le_trans (Nat.le_of_ble_eq_true rfl : 2 + 1 ≤ 6) hD) (S_R_charges hfl (Nat.le_refl _) h16 a0 a1 (v2 + ((J 3) * s11)))) (fun v18 h17 => ?_))
        refine y_iload_n d_R_spends_108 rfl ?_
        exact y_retI d_R_spends_109 rfl rfl
      · refine y_icmp_ne (tgt := 82) d_R_spends_66 (by decide) ?_ ?_
        · refine y_iconst (v := (J 0)) d_R_spends_82 rfl ?_
          exact Hj9 h7 (J 0)
        · refine y_iconst (v := (J 3)) d_R_spends_69 rfl ?_
          refine y_aload_n d_R_spends_70 rfl ?_
          refine y_iload_n d_R_spends_71 rfl ?_
          refine y_iconst (v := (J 3)) d_R_spends_72 rfl ?_
          refine y_gO (fun fs1 g1 => y_cI (c_vi (rest := [.int (J 3)]) d_R_spends_73 k_R_of s_R_67 (Or.inl ⟨_, _, _, g1, rfl, rfl⟩) rfl rfl (Nat.le_of_ble_eq_true rfl) (Nat.le_trans (Nat.le_of_ble_eq_true rfl : 2 + 1 ≤ 6) hD) (S_R_of hfl (Nat.le_refl _) h7 a0 a1 (J 3))) (fun v20 h19 => ?_))
          refine y_mmin d_R_spends_76 s_R_164.1 s_R_164.2 k_MA_min.2.2.2.2.2 (mG (3, 30) (by decide +kernel)) (Nat.le_of_ble_eq_true rfl) (Nat.le_trans (Nat.le_of_ble_eq_true rfl) hD) ?_
          refine y_goto (tgt := 83) d_R_spends_79 (by decide) ?_
          exact Hj9 h19 (mnI (J 3) v20)
    · refine y_aload_n d_R_spends_42 rfl ?_
      refine y_getA d_R_spends_43 f_R_9 (fun v21 => ?_)
      refine y_iload_n d_R_spends_46 rfl ?_
      refine y_bipush (v := (J 6)) d_R_spends_47 (by decide +kernel) ?_
      refine y_cI (c_st (rest := [.ref v21]) d_R_spends_49 k_R_place s_R_76 rfl rfl (Nat.le_of_ble_eq_true rfl) (Nat.le_trans (Nat.le_of_ble_eq_true rfl : 1 + 1 ≤ 6) hD) (S_R_place hfl (Nat.le_refl _) h5 a1 (J 6))) (fun v23 h22 => ?_)
      refine y_dup2 d_R_spends_52 rfl rfl ?_
      refine y_iald d_R_spends_53 (fun v24 => ?_)
      refine y_iconst (v := (J 1)) d_R_spends_54 rfl ?_
      refine y_iadd (v := (v24 + (J 1))) d_R_spends_55 rfl ?_
      refine y_iast d_R_spends_56 (fun h25 => ?_)
      refine y_iconst (v := (J 0)) d_R_spends_57 rfl ?_
      exact y_retI d_R_spends_58 rfl rfl
  · refine y_aload_n d_R_spends_20 rfl ?_
    refine y_getA d_R_spends_21 f_R_9 (fun v26 => ?_)
    refine y_iload_n d_R_spends_24 rfl ?_
    refine y_bipush (v := (J 7)) d_R_spends_25 (by decide +kernel) ?_
    refine y_cI (c_st (rest := [.ref v26]) d_R_spends_27 k_R_place s_R_76 rfl rfl (Nat.le_of_ble_eq_true rfl) (Nat.le_trans (Nat.le_of_ble_eq_true rfl : 1 + 1 ≤ 6) hD) (S_R_place hfl (Nat.le_refl _) h5 a1 (J 7))) (fun v28 h27 => ?_)
    refine y_dup2 d_R_spends_30 rfl rfl ?_
    refine y_iald d_R_spends_31 (fun v29 => ?_)
    refine y_iconst (v := (J 1)) d_R_spends_32 rfl ?_
    refine y_iadd (v := (v29 + (J 1))) d_R_spends_33 rfl ?_
    refine y_iast d_R_spends_34 (fun h30 => ?_)
    refine y_iconst (v := (J 0)) d_R_spends_35 rfl ?_
    exact y_retI d_R_spends_36 rfl rfl
noncomputable def B_R_waits_60 (Θ : mW) (N : Nat) (K99 : mH → Int32 → Option (Int32 × mH)) (f0_ : Nat) (f1_ : Int32) (f3_ : Int32) (rc : mH → Int32 → Int32 → Option (Int32 × mH)) (h : mH) (v2_ : Int32) (v4_ : Int32) : Option (Int32 × mH) :=
  (bo (rA Θ h 9 f0_ 0) (fun v16 => (bo (aR Θ h 0 v16 (J 4)) (fun v17 => (if v17 ≤ v4_ then (K99 h v2_) else (gO Θ h 9 f0_ (bc (P_R_isDocked Θ N h f0_ v4_) (fun v19 h18 => (jn (fun (h21 : mH) (s22 : Int32) => (rc h21 (v2_ + s22) (v4_ + (J 1)))) (fun j20 => (if v19 = 0 then (j20 h18 (J 0)) else (gO Θ h18 9 f0_ (bc (P_R_spends Θ N h18 f0_ v4_) (fun v24 h23 => (j20 h23 v24)))))))))))))))
noncomputable def P_R_waits_60 (Θ : mW) (N : Nat) (K99 : mH → Int32 → Option (Int32 × mH)) (f0_ : Nat) (f1_ : Int32) (f3_ : Int32) : Nat → mH → Int32 → Int32 → Option (Int32 × mH) :=
  lp (fun _ _ _ => none) (B_R_waits_60 Θ N K99 f0_ f1_ f3_)
noncomputable def B_R_waits_20 (Θ : mW) (N : Nat) (K105 : mH → Int32 → Option (Int32 × mH)) (f0_ : Nat) (f1_ : Int32) (rc : mH → Int32 → Int32 → Option (Int32 × mH)) (h : mH) (v2_ : Int32) (v3_ : Int32) : Option (Int32 × mH) :=
  (if f1_ ≤ v3_ then (K105 h v2_) else (bo (rA Θ h 9 f0_ 0) (fun v5 => (bo (aR Θ h 0 v5 (J 0)) (fun v6 => (bo (aW Θ h 0 v5 (J 0) (v6 + (J 1))) (fun h7 => (bo (rA Θ h7 9 f0_ 0) (fun v8 => (bo (rA Θ h7 9 f0_ 0) (fun v9 => (bo (aR Θ h7 0 v9 (J 1)) (fun v10 => (bo (rA Θ h7 9 f0_ 0) (fun v11 => (bo (aR Θ h7 0 v11 (J 0)) (fun v12 => (gO Θ h7 9 f0_ (bc (P_R_levelThen Θ N h7 f0_ v10 v12) (fun v14 h13 => (bo (aW Θ h13 0 v8 (J 1) v14) (fun h15 => (P_R_waits_60 Θ N (fun h25 u26 => (rc h25 u26 (v3_ + (J 1)))) f0_ f1_ v3_ N h15 v2_ (J 0))))))))))))))))))))))))
noncomputable def P_R_waits_20 (Θ : mW) (N : Nat) (K105 : mH → Int32 → Option (Int32 × mH)) (f0_ : Nat) (f1_ : Int32) : Nat → mH → Int32 → Int32 → Option (Int32 × mH) :=
  lp (fun _ _ _ => none) (B_R_waits_20 Θ N K105 f0_ f1_)
noncomputable def P_R_waits (Θ : mW) (N : Nat) (h : mH) (a0 : Nat) (a1 : Int32) : Option (Int32 × mH) :=
  (bc (P_R_isIn Θ N h a1 (J 1) (J 48)) (fun v2 h1 => (gO Θ h1 9 a0 (bc (P_R_goes Θ N h1 a0 v2) (fun v4 h3 => (if v4 = 0 then (some ((J 0), h3)) else (P_R_waits_20 Θ N (fun h27 u28 => (some (u28, h27))) a0 a1 N h3 (J 0) (J 0))))))))
theorem SB_R_waits_60 (hfl : HF l Θ) (hD : 7 ≤ d) {K99 : mH → Int32 → Option (Int32 × mH)} {f0_ : Nat} {f1_ : Int32} {f3_ : Int32}  (hK99 : ∀ (h : mH) (v2_ : Int32), mY l Θ d M_R_waits 99 [some (.ref f0_), some (.int f1_), some (.int v2_), some (.int f3_), none] [] h (tR vI) (K99 h v2_)) (rc : mH → Int32 → Int32 → Option (Int32 × mH)) (ih : ∀ (h : mH) (v2_ : Int32) (v4_ : Int32), mY l Θ d M_R_waits 60 [some (.ref f0_), some (.int f1_), some (.int v2_), some (.int f3_), some (.int v4_)] [] h (tR vI) (rc h v2_ v4_)) : ∀ (h : mH) (v2_ : Int32) (v4_ : Int32), mY l Θ d M_R_waits 60 [some (.ref f0_), some (.int f1_), some (.int v2_), some (.int f3_), some (.int v4_)] [] h (tR vI) (B_R_waits_60 Θ N K99 f0_ f1_ f3_ rc h v2_ v4_) := by
  intro h v2_ v4_
  unfold B_R_waits_60
  refine y_iload d_R_waits_60 rfl ?_
  refine y_aload_n d_R_waits_62 rfl ?_
  refine y_getA d_R_waits_63 f_R_9 (fun v16 => ?_)
  refine y_iconst (v := (J 4)) d_R_waits_66 rfl ?_
  refine y_iald d_R_waits_67 (fun v17 => ?_)
  refine y_icmp_ge (tgt := 99) d_R_waits_68 (by decide) ?_ ?_
  · exact y_wk (loc2 := [some (.ref f0_), some (.int f1_), some (.int v2_), some (.int f3_), none]) ⟨rfl, ⟨rfl, ⟨rfl, ⟨rfl, trivial⟩⟩⟩⟩ (hK99 h v2_)
  · refine y_iload_n d_R_waits_71 rfl ?_
    refine y_aload_n d_R_waits_72 rfl ?_
    refine y_iload d_R_waits_73 rfl ?_
    refine y_gO (fun fs1 g1 => y_cI (c_vi (rest := [.int v2_]) d_R_waits_75 k_R_isDocked s_R_79 (Or.inl ⟨_, _, _, g1, rfl, rfl⟩) rfl rfl (Nat.le_of_ble_eq_true rfl) (Nat.le_trans (Nat.le_of_ble_eq_true rfl : 3 + 1 ≤ 7) hD) (S_R_isDocked hfl (Nat.le_refl _) h f0_ v4_)) (fun v19 h18 => ?_))
    refine y_jn (C := fun (j9 : mH → Int32 → Option (Int32 × mH)) => ∀ (h21 : mH) (s22 : Int32), mY l Θ d M_R_waits 91 [some (.ref f0_), some (.int f1_), none, some (.int f3_), some (.int v4_)] [.int s22, .int v2_] h21 (tR vI) (j9 h21 s22)) (fun h21 s22 => ?_) (fun j20 Hj20 => ?_)
    · refine y_iadd (v := (v2_ + s22)) d_R_waits_91 rfl ?_
      refine y_istore_n (loc2 := [some (.ref f0_), some (.int f1_), some (.int (v2_ + s22)), some (.int f3_), some (.int v4_)]) d_R_waits_92 (Nat.le_of_ble_eq_true rfl) rfl rfl ?_
      refine y_iinc (v := (v4_ + (J 1))) (loc2 := [some (.ref f0_), some (.int f1_), some (.int (v2_ + s22)), some (.int f3_), some (.int (v4_ + (J 1)))]) d_R_waits_93 rfl rfl (Nat.le_of_ble_eq_true rfl) rfl rfl ?_
      refine y_goto (tgt := 60) d_R_waits_96 (by decide) ?_
      exact ih h21 (v2_ + s22) (v4_ + (J 1))
    · refine y_if_eq (tgt := 90) d_R_waits_78 (by decide) ?_ ?_
      · refine y_iconst (v := (J 0)) d_R_waits_90 rfl ?_
        exact y_wk (loc2 := [some (.ref f0_), some (.int f1_), none, some (.int f3_), some (.int v4_)]) ⟨rfl, ⟨rfl, ⟨rfl, ⟨rfl, trivial⟩⟩⟩⟩ (Hj20 h18 (J 0))
      · refine y_aload_n d_R_waits_81 rfl ?_
        refine y_iload d_R_waits_82 rfl ?_
        refine y_gO (fun fs1 g1 => y_cI (c_vi (rest := [.int v2_]) d_R_waits_84 k_R_spends s_R_176 (Or.inl ⟨_, _, _, g1, rfl, rfl⟩) rfl rfl (Nat.le_of_ble_eq_true rfl) (Nat.le_trans (Nat.le_of_ble_eq_true rfl : 6 + 1 ≤ 7) hD) (S_R_spends hfl (Nat.le_refl _) h18 f0_ v4_)) (fun v24 h23 => ?_))
        refine y_goto (tgt := 91) d_R_waits_87 (by decide) ?_
        exact y_wk (loc2 := [some (.ref f0_), some (.int f1_), none, some (.int f3_), some (.int v4_)]) ⟨rfl, ⟨rfl, ⟨rfl, ⟨rfl, trivial⟩⟩⟩⟩ (Hj20 h23 v24)
theorem S_R_waits_60 (hfl : HF l Θ) (hD : 7 ≤ d) {K99 : mH → Int32 → Option (Int32 × mH)} {f0_ : Nat} {f1_ : Int32} {f3_ : Int32}  (hK99 : ∀ (h : mH) (v2_ : Int32), mY l Θ d M_R_waits 99 [some (.ref f0_), some (.int f1_), some (.int v2_), some (.int f3_), none] [] h (tR vI) (K99 h v2_)) : ∀ (n : Nat) (h : mH) (v2_ : Int32) (v4_ : Int32), mY l Θ d M_R_waits 60 [some (.ref f0_), some (.int f1_), some (.int v2_), some (.int f3_), some (.int v4_)] [] h (tR vI) (P_R_waits_60 Θ N K99 f0_ f1_ f3_ n h v2_ v4_) :=
  fun n => lp_all (C := fun (rc : mH → Int32 → Int32 → Option (Int32 × mH)) => ∀ (h : mH) (v2_ : Int32) (v4_ : Int32), mY l Θ d M_R_waits 60 [some (.ref f0_), some (.int f1_), some (.int v2_), some (.int f3_), some (.int v4_)] [] h (tR vI) (rc h v2_ v4_)) (fun _ _ _ => y_none) (fun rc ih => SB_R_waits_60 hfl hD hK99 rc ih) n
theorem SB_R_waits_20 (hfl : HF l Θ) (hD : 7 ≤ d) {K105 : mH → Int32 → Option (Int32 × mH)} {f0_ : Nat} {f1_ : Int32}  (hK105 : ∀ (h : mH) (v2_ : Int32), mY l Θ d M_R_waits 105 [none, none, some (.int v2_), none, none] [] h (tR vI) (K105 h v2_)) (rc : mH → Int32 → Int32 → Option (Int32 × mH)) (ih : ∀ (h : mH) (v2_ : Int32) (v3_ : Int32), mY l Θ d M_R_waits 20 [some (.ref f0_), some (.int f1_), some (.int v2_), some (.int v3_), none] [] h (tR vI) (rc h v2_ v3_)) : ∀ (h : mH) (v2_ : Int32) (v3_ : Int32), mY l Θ d M_R_waits 20 [some (.ref f0_), some (.int f1_), some (.int v2_), some (.int v3_), none] [] h (tR vI) (B_R_waits_20 Θ N K105 f0_ f1_ rc h v2_ v3_) := by
  intro h v2_ v3_
  unfold B_R_waits_20
  refine y_iload_n d_R_waits_20 rfl ?_
  refine y_iload_n d_R_waits_21 rfl ?_
  refine y_icmp_ge (tgt := 105) d_R_waits_22 (by decide) ?_ ?_
  · exact y_wk (loc2 := [none, none, some (.int v2_), none, none]) ⟨rfl, trivial⟩ (hK105 h v2_)
  · refine y_aload_n d_R_waits_25 rfl ?_
    refine y_getA d_R_waits_26 f_R_9 (fun v5 => ?_)
    refine y_iconst (v := (J 0)) d_R_waits_29 rfl ?_
    refine y_dup2 d_R_waits_30 rfl rfl ?_
    refine y_iald d_R_waits_31 (fun v6 => ?_)
    refine y_iconst (v := (J 1)) d_R_waits_32 rfl ?_
    refine y_iadd (v := (v6 + (J 1))) d_R_waits_33 rfl ?_
    refine y_iast d_R_waits_34 (fun h7 => ?_)
    refine y_aload_n d_R_waits_35 rfl ?_
    refine y_getA d_R_waits_36 f_R_9 (fun v8 => ?_)
    refine y_iconst (v := (J 1)) d_R_waits_39 rfl ?_
    refine y_aload_n d_R_waits_40 rfl ?_
    refine y_aload_n d_R_waits_41 rfl ?_
    refine y_getA d_R_waits_42 f_R_9 (fun v9 => ?_)
    refine y_iconst (v := (J 1)) d_R_waits_45 rfl ?_
    refine y_iald d_R_waits_46 (fun v10 => ?_)
    refine y_aload_n d_R_waits_47 rfl ?_
    refine y_getA d_R_waits_48 f_R_9 (fun v11 => ?_)
    refine y_iconst (v := (J 0)) d_R_waits_51 rfl ?_
    refine y_iald d_R_waits_52 (fun v12 => ?_)
    refine y_gO (fun fs1 g1 => y_cI (c_vi (rest := [.int (J 1), .ref v8]) d_R_waits_53 k_R_levelThen s_R_173 (Or.inl ⟨_, _, _, g1, rfl, rfl⟩) rfl rfl (Nat.le_of_ble_eq_true rfl) (Nat.le_trans (Nat.le_of_ble_eq_true rfl : 2 + 1 ≤ 7) hD) (S_R_levelThen hfl (Nat.le_refl _) h7 f0_ v10 v12)) (fun v14 h13 => ?_))
    refine y_iast d_R_waits_56 (fun h15 => ?_)
    refine y_iconst (v := (J 0)) d_R_waits_57 rfl ?_
    refine y_istore (loc2 := [some (.ref f0_), some (.int f1_), some (.int v2_), some (.int v3_), some (.int (J 0))]) d_R_waits_58 (Nat.le_of_ble_eq_true rfl) rfl rfl ?_
    refine S_R_waits_60 hfl hD (fun h25 u26 => ?_) N h15 v2_ (J 0)
    refine y_iinc (v := (v3_ + (J 1))) (loc2 := [some (.ref f0_), some (.int f1_), some (.int u26), some (.int (v3_ + (J 1))), none]) d_R_waits_99 rfl rfl (Nat.le_of_ble_eq_true rfl) rfl rfl ?_
    refine y_goto (tgt := 20) d_R_waits_102 (by decide) ?_
    exact ih h25 u26 (v3_ + (J 1))
theorem S_R_waits_20 (hfl : HF l Θ) (hD : 7 ≤ d) {K105 : mH → Int32 → Option (Int32 × mH)} {f0_ : Nat} {f1_ : Int32}  (hK105 : ∀ (h : mH) (v2_ : Int32), mY l Θ d M_R_waits 105 [none, none, some (.int v2_), none, none] [] h (tR vI) (K105 h v2_)) : ∀ (n : Nat) (h : mH) (v2_ : Int32) (v3_ : Int32), mY l Θ d M_R_waits 20 [some (.ref f0_), some (.int f1_), some (.int v2_), some (.int v3_), none] [] h (tR vI) (P_R_waits_20 Θ N K105 f0_ f1_ n h v2_ v3_) :=
  fun n => lp_all (C := fun (rc : mH → Int32 → Int32 → Option (Int32 × mH)) => ∀ (h : mH) (v2_ : Int32) (v3_ : Int32), mY l Θ d M_R_waits 20 [some (.ref f0_), some (.int f1_), some (.int v2_), some (.int v3_), none] [] h (tR vI) (rc h v2_ v3_)) (fun _ _ _ => y_none) (fun rc ih => SB_R_waits_20 hfl hD hK105 rc ih) n
theorem S_R_waits (hfl : HF l Θ) (hD : 7 ≤ d) (h : mH) (a0 : Nat) (a1 : Int32) : mMs l Θ d M_R_waits [.ref a0, .int a1] h (tR vI) (P_R_waits Θ N h a0 a1) := by
  refine mMs.of hfl (by decide +kernel) rfl (Nat.le_of_ble_eq_true rfl) (loc := [some (.ref a0), some (.int a1), none, none, none]) rfl ?_
  unfold P_R_waits
  refine y_aload_n d_R_waits_0 rfl ?_
  refine y_iload_n d_R_waits_1 rfl ?_
  refine y_iconst (v := (J 1)) d_R_waits_2 rfl ?_
  refine y_bipush (v := (J 48)) d_R_waits_3 (by decide +kernel) ?_
  refine y_cI (c_st (rest := [.ref a0]) d_R_waits_5 k_R_isIn s_R_83 rfl rfl (Nat.le_of_ble_eq_true rfl) (Nat.le_trans (Nat.le_of_ble_eq_true rfl : 1 + 1 ≤ 7) hD) (S_R_isIn hfl (Nat.le_refl _) h a1 (J 1) (J 48))) (fun v2 h1 => ?_)
  refine y_gO (fun fs1 g1 => y_cI (c_vi (rest := []) d_R_waits_8 k_R_goes s_R_59 (Or.inl ⟨_, _, _, g1, rfl, rfl⟩) rfl rfl (Nat.le_of_ble_eq_true rfl) (Nat.le_trans (Nat.le_of_ble_eq_true rfl : 2 + 1 ≤ 7) hD) (S_R_goes hfl (Nat.le_refl _) h1 a0 v2)) (fun v4 h3 => ?_))
  refine y_if_ne (tgt := 16) d_R_waits_11 (by decide) ?_ ?_
  · refine y_iconst (v := (J 0)) d_R_waits_16 rfl ?_
    refine y_istore_n (loc2 := [some (.ref a0), some (.int a1), some (.int (J 0)), none, none]) d_R_waits_17 (Nat.le_of_ble_eq_true rfl) rfl rfl ?_
    refine y_iconst (v := (J 0)) d_R_waits_18 rfl ?_
    refine y_istore_n (loc2 := [some (.ref a0), some (.int a1), some (.int (J 0)), some (.int (J 0)), none]) d_R_waits_19 (Nat.le_of_ble_eq_true rfl) rfl rfl ?_
    refine S_R_waits_20 hfl hD (fun h27 u28 => ?_) N h3 (J 0) (J 0)
    refine y_iload_n d_R_waits_105 rfl ?_
    exact y_retI d_R_waits_106 rfl rfl
  · refine y_iconst (v := (J 0)) d_R_waits_14 rfl ?_
    exact y_retI d_R_waits_15 rfl rfl
noncomputable def P_R_pass (Θ : mW) (N : Nat) (h : mH) (a0 : Nat) (a1 : Int32) : Option (Int32 × mH) :=
  (gO Θ h 9 a0 (bc (P_R_begins Θ N h a0) (fun v2 h1 => (gO Θ h1 9 a0 (bc (P_R_waits Θ N h1 a0 a1) (fun v4 h3 => (gO Θ h3 9 a0 (bc (P_R_ends Θ N h3 a0 v4) (fun v6 h5 => (some (v6, h5)))))))))))
theorem S_R_pass (hfl : HF l Θ) (hD : 8 ≤ d) (h : mH) (a0 : Nat) (a1 : Int32) : mMs l Θ d M_R_pass [.ref a0, .int a1] h (tR vI) (P_R_pass Θ N h a0 a1) := by
  refine mMs.of hfl (by decide +kernel) rfl (Nat.le_of_ble_eq_true rfl) (loc := [some (.ref a0), some (.int a1)]) rfl ?_
  unfold P_R_pass
  refine y_aload_n d_R_pass_0 rfl ?_
  refine y_gO (fun fs1 g1 => y_cU (c_vi (rest := []) d_R_pass_1 k_R_begins s_R_94 (Or.inl ⟨_, _, _, g1, rfl, rfl⟩) rfl rfl (Nat.le_of_ble_eq_true rfl) (Nat.le_trans (Nat.le_of_ble_eq_true rfl : 2 + 1 ≤ 8) hD) (S_R_begins hfl (Nat.le_refl _) h a0)) (fun v2 h1 => ?_))
  refine y_aload_n d_R_pass_4 rfl ?_
  refine y_aload_n d_R_pass_5 rfl ?_
  refine y_iload_n d_R_pass_6 rfl ?_
  refine y_gO (fun fs1 g1 => y_cI (c_vi (rest := [.ref a0]) d_R_pass_7 k_R_waits s_R_179 (Or.inl ⟨_, _, _, g1, rfl, rfl⟩) rfl rfl (Nat.le_of_ble_eq_true rfl) (Nat.le_trans (Nat.le_of_ble_eq_true rfl : 7 + 1 ≤ 8) hD) (S_R_waits hfl (Nat.le_refl _) h1 a0 a1)) (fun v4 h3 => ?_))
  refine y_gO (fun fs1 g1 => y_cI (c_vi (rest := []) d_R_pass_10 k_R_ends s_R_101 (Or.inl ⟨_, _, _, g1, rfl, rfl⟩) rfl rfl (Nat.le_of_ble_eq_true rfl) (Nat.le_trans (Nat.le_of_ble_eq_true rfl : 3 + 1 ≤ 8) hD) (S_R_ends hfl (Nat.le_refl _) h3 a0 v4)) (fun v6 h5 => ?_))
  exact y_retI d_R_pass_13 rfl rfl
noncomputable def P_R_shipCount (Θ : mW) (N : Nat) (h : mH) (a0 : Nat) : Option (Int32 × mH) :=
  (bo (wF Θ h 9 a0 13 (.int (J 0))) (fun h1 => (bo (rA Θ h1 9 a0 0) (fun v2 => (bo (aR Θ h1 0 v2 (J 4)) (fun v3 => (some (v3, h1))))))))
theorem S_R_shipCount (hfl : HF l Θ) (hD : 1 ≤ d) (h : mH) (a0 : Nat) : mMs l Θ d M_R_shipCount [.ref a0] h (tR vI) (P_R_shipCount Θ N h a0) := by
  refine mMs.of hfl (by decide +kernel) rfl (Nat.le_of_ble_eq_true rfl) (loc := [some (.ref a0)]) rfl ?_
  unfold P_R_shipCount
  refine y_aload_n d_R_shipCount_0 rfl ?_
  refine y_iconst (v := (J 0)) d_R_shipCount_1 rfl ?_
  refine y_put d_R_shipCount_2 p_R_42 rfl rfl (fun h1 => ?_)
  refine y_aload_n d_R_shipCount_5 rfl ?_
  refine y_getA d_R_shipCount_6 f_R_9 (fun v2 => ?_)
  refine y_iconst (v := (J 4)) d_R_shipCount_9 rfl ?_
  refine y_iald d_R_shipCount_10 (fun v3 => ?_)
  exact y_retI d_R_shipCount_11 rfl rfl
noncomputable def P_R_shipAt (Θ : mW) (N : Nat) (h : mH) (a0 : Nat) (a1 : Int32) : Option (Int32 × mH) :=
  (bo (rA Θ h 9 a0 0) (fun v1 => (bo (aR Θ h 0 v1 (J 4)) (fun v2 => (bc (P_R_isIn Θ N h a1 (J 0) (v2 - (J 1))) (fun v4 h3 => (gO Θ h3 9 a0 (bc (P_R_goes Θ N h3 a0 v4) (fun v6 h5 => (if v6 = 0 then (some ((J 0), h5)) else (gO Θ h5 9 a0 (bc (P_R_of Θ N h5 a0 a1 (J 0)) (fun v8 h7 => (some (v8, h7)))))))))))))))
theorem S_R_shipAt (hfl : HF l Θ) (hD : 3 ≤ d) (h : mH) (a0 : Nat) (a1 : Int32) : mMs l Θ d M_R_shipAt [.ref a0, .int a1] h (tR vI) (P_R_shipAt Θ N h a0 a1) := by
  refine mMs.of hfl (by decide +kernel) rfl (Nat.le_of_ble_eq_true rfl) (loc := [some (.ref a0), some (.int a1)]) rfl ?_
  unfold P_R_shipAt
  refine y_aload_n d_R_shipAt_0 rfl ?_
  refine y_iload_n d_R_shipAt_1 rfl ?_
  refine y_iconst (v := (J 0)) d_R_shipAt_2 rfl ?_
  refine y_aload_n d_R_shipAt_3 rfl ?_
  refine y_getA d_R_shipAt_4 f_R_9 (fun v1 => ?_)
  refine y_iconst (v := (J 4)) d_R_shipAt_7 rfl ?_
  refine y_iald d_R_shipAt_8 (fun v2 => ?_)
  refine y_iconst (v := (J 1)) d_R_shipAt_9 rfl ?_
  refine y_isub (v := (v2 - (J 1))) d_R_shipAt_10 rfl ?_
  refine y_cI (c_st (rest := [.ref a0]) d_R_shipAt_11 k_R_isIn s_R_83 rfl rfl (Nat.le_of_ble_eq_true rfl) (Nat.le_trans (Nat.le_of_ble_eq_true rfl : 1 + 1 ≤ 3) hD) (S_R_isIn hfl (Nat.le_refl _) h a1 (J 0) (v2 - (J 1)))) (fun v4 h3 => ?_)
  refine y_gO (fun fs1 g1 => y_cI (c_vi (rest := []) d_R_shipAt_14 k_R_goes s_R_59 (Or.inl ⟨_, _, _, g1, rfl, rfl⟩) rfl rfl (Nat.le_of_ble_eq_true rfl) (Nat.le_trans (Nat.le_of_ble_eq_true rfl : 2 + 1 ≤ 3) hD) (S_R_goes hfl (Nat.le_refl _) h3 a0 v4)) (fun v6 h5 => ?_))
  refine y_if_eq (tgt := 29) d_R_shipAt_17 (by decide) ?_ ?_
  · refine y_iconst (v := (J 0)) d_R_shipAt_29 rfl ?_
    exact y_retI d_R_shipAt_30 rfl rfl
  · refine y_aload_n d_R_shipAt_20 rfl ?_
    refine y_iload_n d_R_shipAt_21 rfl ?_
    refine y_iconst (v := (J 0)) d_R_shipAt_22 rfl ?_
    refine y_gO (fun fs1 g1 => y_cI (c_vi (rest := []) d_R_shipAt_23 k_R_of s_R_67 (Or.inl ⟨_, _, _, g1, rfl, rfl⟩) rfl rfl (Nat.le_of_ble_eq_true rfl) (Nat.le_trans (Nat.le_of_ble_eq_true rfl : 2 + 1 ≤ 3) hD) (S_R_of hfl (Nat.le_refl _) h5 a0 a1 (J 0))) (fun v8 h7 => ?_))
    refine y_goto (tgt := 30) d_R_shipAt_26 (by decide) ?_
    exact y_retI d_R_shipAt_30 rfl rfl
noncomputable def P_R_asks (Θ : mW) (N : Nat) (h : mH) (a0 : Nat) (a1 : Int32) (a2 : Int32) : Option (Int32 × mH) :=
  (gO Θ h 9 a0 (bc (P_R_find Θ N h a0 a1) (fun v2 h1 => (jn (fun (h4 : mH) (s5 : Int32) => (gO Θ h4 9 a0 (bc (P_R_goes Θ N h4 a0 s5) (fun v7 h6 => (if v7 = 0 then (some ((J 0), h6)) else (gO Θ h6 9 a0 (bc (P_R_of Θ N h6 a0 v2 a2) (fun v9 h8 => (some (v9, h8)))))))))) (fun j3 => (if v2 = (J (-1)) then (j3 h1 (J 0)) else (j3 h1 (J 1))))))))
theorem S_R_asks (hfl : HF l Θ) (hD : 4 ≤ d) (h : mH) (a0 : Nat) (a1 : Int32) (a2 : Int32) : mMs l Θ d M_R_asks [.ref a0, .int a1, .int a2] h (tR vI) (P_R_asks Θ N h a0 a1 a2) := by
  refine mMs.of hfl (by decide +kernel) rfl (Nat.le_of_ble_eq_true rfl) (loc := [some (.ref a0), some (.int a1), some (.int a2), none]) rfl ?_
  unfold P_R_asks
  refine y_aload_n d_R_asks_0 rfl ?_
  refine y_iload_n d_R_asks_1 rfl ?_
  refine y_gO (fun fs1 g1 => y_cI (c_vi (rest := []) d_R_asks_2 k_R_find s_R_104 (Or.inl ⟨_, _, _, g1, rfl, rfl⟩) rfl rfl (Nat.le_of_ble_eq_true rfl) (Nat.le_trans (Nat.le_of_ble_eq_true rfl : 3 + 1 ≤ 4) hD) (S_R_find hfl (Nat.le_refl _) h a0 a1)) (fun v2 h1 => ?_))
  refine y_istore_n (loc2 := [some (.ref a0), some (.int a1), some (.int a2), some (.int v2)]) d_R_asks_5 (Nat.le_of_ble_eq_true rfl) rfl rfl ?_
  refine y_aload_n d_R_asks_6 rfl ?_
  refine y_iload_n d_R_asks_7 rfl ?_
  refine y_iconst (v := (J (-1))) d_R_asks_8 rfl ?_
  refine y_jn (C := fun (j9 : mH → Int32 → Option (Int32 × mH)) => ∀ (h4 : mH) (s5 : Int32), mY l Θ d M_R_asks 17 [some (.ref a0), none, some (.int a2), some (.int v2)] [.int s5, .ref a0] h4 (tR vI) (j9 h4 s5)) (fun h4 s5 => ?_) (fun j3 Hj3 => ?_)
  · refine y_gO (fun fs1 g1 => y_cI (c_vi (rest := []) d_R_asks_17 k_R_goes s_R_59 (Or.inl ⟨_, _, _, g1, rfl, rfl⟩) rfl rfl (Nat.le_of_ble_eq_true rfl) (Nat.le_trans (Nat.le_of_ble_eq_true rfl : 2 + 1 ≤ 4) hD) (S_R_goes hfl (Nat.le_refl _) h4 a0 s5)) (fun v7 h6 => ?_))
    refine y_if_eq (tgt := 32) d_R_asks_20 (by decide) ?_ ?_
    · refine y_iconst (v := (J 0)) d_R_asks_32 rfl ?_
      exact y_retI d_R_asks_33 rfl rfl
    · refine y_aload_n d_R_asks_23 rfl ?_
      refine y_iload_n d_R_asks_24 rfl ?_
      refine y_iload_n d_R_asks_25 rfl ?_
      refine y_gO (fun fs1 g1 => y_cI (c_vi (rest := []) d_R_asks_26 k_R_of s_R_67 (Or.inl ⟨_, _, _, g1, rfl, rfl⟩) rfl rfl (Nat.le_of_ble_eq_true rfl) (Nat.le_trans (Nat.le_of_ble_eq_true rfl : 2 + 1 ≤ 4) hD) (S_R_of hfl (Nat.le_refl _) h6 a0 v2 a2)) (fun v9 h8 => ?_))
      refine y_goto (tgt := 33) d_R_asks_29 (by decide) ?_
      exact y_retI d_R_asks_33 rfl rfl
  · refine y_icmp_eq (tgt := 16) d_R_asks_9 (by decide) ?_ ?_
    · refine y_iconst (v := (J 0)) d_R_asks_16 rfl ?_
      exact y_wk (loc2 := [some (.ref a0), none, some (.int a2), some (.int v2)]) ⟨rfl, ⟨rfl, ⟨rfl, trivial⟩⟩⟩ (Hj3 h1 (J 0))
    · refine y_iconst (v := (J 1)) d_R_asks_12 rfl ?_
      refine y_goto (tgt := 17) d_R_asks_13 (by decide) ?_
      exact y_wk (loc2 := [some (.ref a0), none, some (.int a2), some (.int v2)]) ⟨rfl, ⟨rfl, ⟨rfl, trivial⟩⟩⟩ (Hj3 h1 (J 1))
noncomputable def P_R_isInDock (Θ : mW) (N : Nat) (h : mH) (a0 : Nat) (a1 : Int32) : Option (Int32 × mH) :=
  (gO Θ h 9 a0 (bc (P_R_asks Θ N h a0 a1 (J 4)) (fun v2 h1 => (if v2 = (J (-1)) then (some ((J 0), h1)) else (bo (rI Θ h1 9 a0 13) (fun v3 => (if v3 = 0 then (some ((J 1), h1)) else (some ((J 0), h1)))))))))
theorem S_R_isInDock (hfl : HF l Θ) (hD : 5 ≤ d) (h : mH) (a0 : Nat) (a1 : Int32) : mMs l Θ d M_R_isInDock [.ref a0, .int a1] h (tR vI) (P_R_isInDock Θ N h a0 a1) := by
  refine mMs.of hfl (by decide +kernel) rfl (Nat.le_of_ble_eq_true rfl) (loc := [some (.ref a0), some (.int a1)]) rfl ?_
  unfold P_R_isInDock
  refine y_aload_n d_R_isInDock_0 rfl ?_
  refine y_iload_n d_R_isInDock_1 rfl ?_
  refine y_iconst (v := (J 4)) d_R_isInDock_2 rfl ?_
  refine y_gO (fun fs1 g1 => y_cI (c_vi (rest := []) d_R_isInDock_3 k_R_asks s_R_182 (Or.inl ⟨_, _, _, g1, rfl, rfl⟩) rfl rfl (Nat.le_of_ble_eq_true rfl) (Nat.le_trans (Nat.le_of_ble_eq_true rfl : 4 + 1 ≤ 5) hD) (S_R_asks hfl (Nat.le_refl _) h a0 a1 (J 4))) (fun v2 h1 => ?_))
  refine y_iconst (v := (J (-1))) d_R_isInDock_6 rfl ?_
  refine y_icmp_eq (tgt := 21) d_R_isInDock_7 (by decide) ?_ ?_
  · refine y_iconst (v := (J 0)) d_R_isInDock_21 rfl ?_
    exact y_retI d_R_isInDock_22 rfl (by decide +kernel)
  · refine y_aload_n d_R_isInDock_10 rfl ?_
    refine y_getI d_R_isInDock_11 f_R_42 (fun v3 => ?_)
    refine y_if_ne (tgt := 21) d_R_isInDock_14 (by decide) ?_ ?_
    · refine y_iconst (v := (J 0)) d_R_isInDock_21 rfl ?_
      exact y_retI d_R_isInDock_22 rfl (by decide +kernel)
    · refine y_iconst (v := (J 1)) d_R_isInDock_17 rfl ?_
      refine y_goto (tgt := 22) d_R_isInDock_18 (by decide) ?_
      exact y_retI d_R_isInDock_22 rfl (by decide +kernel)
noncomputable def P_R_positionOf (Θ : mW) (N : Nat) (h : mH) (a0 : Nat) (a1 : Int32) : Option (Int32 × mH) :=
  (gO Θ h 9 a0 (bc (P_R_find Θ N h a0 a1) (fun v2 h1 => (jn (fun (h4 : mH) (s5 : Int32) => (gO Θ h4 9 a0 (bc (P_R_isDocked Θ N h4 a0 v2) (fun v7 h6 => (gO Θ h6 9 a0 (bc (P_R_holds Θ N h6 a0 s5 v7 (J 1) (J 1)) (fun v9 h8 => (if v9 = 0 then (some ((J 0), h8)) else (gO Θ h8 9 a0 (bc (P_R_of Θ N h8 a0 v2 (J 4)) (fun v11 h10 => (some (v11, h10))))))))))))) (fun j3 => (if v2 = (J (-1)) then (j3 h1 (J 0)) else (j3 h1 (J 1))))))))
theorem S_R_positionOf (hfl : HF l Θ) (hD : 4 ≤ d) (h : mH) (a0 : Nat) (a1 : Int32) : mMs l Θ d M_R_positionOf [.ref a0, .int a1] h (tR vI) (P_R_positionOf Θ N h a0 a1) := by
  refine mMs.of hfl (by decide +kernel) rfl (Nat.le_of_ble_eq_true rfl) (loc := [some (.ref a0), some (.int a1), none]) rfl ?_
  unfold P_R_positionOf
  refine y_aload_n d_R_positionOf_0 rfl ?_
  refine y_iload_n d_R_positionOf_1 rfl ?_
  refine y_gO (fun fs1 g1 => y_cI (c_vi (rest := []) d_R_positionOf_2 k_R_find s_R_104 (Or.inl ⟨_, _, _, g1, rfl, rfl⟩) rfl rfl (Nat.le_of_ble_eq_true rfl) (Nat.le_trans (Nat.le_of_ble_eq_true rfl : 3 + 1 ≤ 4) hD) (S_R_find hfl (Nat.le_refl _) h a0 a1)) (fun v2 h1 => ?_))
  refine y_istore_n (loc2 := [some (.ref a0), some (.int a1), some (.int v2)]) d_R_positionOf_5 (Nat.le_of_ble_eq_true rfl) rfl rfl ?_
  refine y_aload_n d_R_positionOf_6 rfl ?_
  refine y_iload_n d_R_positionOf_7 rfl ?_
  refine y_iconst (v := (J (-1))) d_R_positionOf_8 rfl ?_
  refine y_jn (C := fun (j9 : mH → Int32 → Option (Int32 × mH)) => ∀ (h4 : mH) (s5 : Int32), mY l Θ d M_R_positionOf 17 [some (.ref a0), none, some (.int v2)] [.int s5, .ref a0] h4 (tR vI) (j9 h4 s5)) (fun h4 s5 => ?_) (fun j3 Hj3 => ?_)
  · refine y_aload_n d_R_positionOf_17 rfl ?_
    refine y_iload_n d_R_positionOf_18 rfl ?_
    refine y_gO (fun fs1 g1 => y_cI (c_vi (rest := [.int s5, .ref a0]) d_R_positionOf_19 k_R_isDocked s_R_79 (Or.inl ⟨_, _, _, g1, rfl, rfl⟩) rfl rfl (Nat.le_of_ble_eq_true rfl) (Nat.le_trans (Nat.le_of_ble_eq_true rfl : 3 + 1 ≤ 4) hD) (S_R_isDocked hfl (Nat.le_refl _) h4 a0 v2)) (fun v7 h6 => ?_))
    refine y_iconst (v := (J 1)) d_R_positionOf_22 rfl ?_
    refine y_iconst (v := (J 1)) d_R_positionOf_23 rfl ?_
    refine y_gO (fun fs1 g1 => y_cI (c_vi (rest := []) d_R_positionOf_24 k_R_holds s_R_45 (Or.inl ⟨_, _, _, g1, rfl, rfl⟩) rfl rfl (Nat.le_of_ble_eq_true rfl) (Nat.le_trans (Nat.le_of_ble_eq_true rfl : 1 + 1 ≤ 4) hD) (S_R_holds hfl (Nat.le_refl _) h6 a0 s5 v7 (J 1) (J 1))) (fun v9 h8 => ?_))
    refine y_if_eq (tgt := 39) d_R_positionOf_27 (by decide) ?_ ?_
    · refine y_iconst (v := (J 0)) d_R_positionOf_39 rfl ?_
      exact y_retI d_R_positionOf_40 rfl rfl
    · refine y_aload_n d_R_positionOf_30 rfl ?_
      refine y_iload_n d_R_positionOf_31 rfl ?_
      refine y_iconst (v := (J 4)) d_R_positionOf_32 rfl ?_
      refine y_gO (fun fs1 g1 => y_cI (c_vi (rest := []) d_R_positionOf_33 k_R_of s_R_67 (Or.inl ⟨_, _, _, g1, rfl, rfl⟩) rfl rfl (Nat.le_of_ble_eq_true rfl) (Nat.le_trans (Nat.le_of_ble_eq_true rfl : 2 + 1 ≤ 4) hD) (S_R_of hfl (Nat.le_refl _) h8 a0 v2 (J 4))) (fun v11 h10 => ?_))
      refine y_goto (tgt := 40) d_R_positionOf_36 (by decide) ?_
      exact y_retI d_R_positionOf_40 rfl rfl
  · refine y_icmp_eq (tgt := 16) d_R_positionOf_9 (by decide) ?_ ?_
    · refine y_iconst (v := (J 0)) d_R_positionOf_16 rfl ?_
      exact y_wk (loc2 := [some (.ref a0), none, some (.int v2)]) ⟨rfl, ⟨rfl, trivial⟩⟩ (Hj3 h1 (J 0))
    · refine y_iconst (v := (J 1)) d_R_positionOf_12 rfl ?_
      refine y_goto (tgt := 17) d_R_positionOf_13 (by decide) ?_
      exact y_wk (loc2 := [some (.ref a0), none, some (.int v2)]) ⟨rfl, ⟨rfl, trivial⟩⟩ (Hj3 h1 (J 1))
noncomputable def P_R_dirtOf (Θ : mW) (N : Nat) (h : mH) (a0 : Nat) (a1 : Int32) : Option (Int32 × mH) :=
  (gO Θ h 9 a0 (bc (P_R_asks Θ N h a0 a1 (J 3)) (fun v2 h1 => (some (v2, h1)))))
theorem S_R_dirtOf (hfl : HF l Θ) (hD : 5 ≤ d) (h : mH) (a0 : Nat) (a1 : Int32) : mMs l Θ d M_R_dirtOf [.ref a0, .int a1] h (tR vI) (P_R_dirtOf Θ N h a0 a1) := by
  refine mMs.of hfl (by decide +kernel) rfl (Nat.le_of_ble_eq_true rfl) (loc := [some (.ref a0), some (.int a1)]) rfl ?_
  unfold P_R_dirtOf
  refine y_aload_n d_R_dirtOf_0 rfl ?_
  refine y_iload_n d_R_dirtOf_1 rfl ?_
  refine y_iconst (v := (J 3)) d_R_dirtOf_2 rfl ?_
  refine y_gO (fun fs1 g1 => y_cI (c_vi (rest := []) d_R_dirtOf_3 k_R_asks s_R_182 (Or.inl ⟨_, _, _, g1, rfl, rfl⟩) rfl rfl (Nat.le_of_ble_eq_true rfl) (Nat.le_trans (Nat.le_of_ble_eq_true rfl : 4 + 1 ≤ 5) hD) (S_R_asks hfl (Nat.le_refl _) h a0 a1 (J 3))) (fun v2 h1 => ?_))
  exact y_retI d_R_dirtOf_6 rfl rfl
noncomputable def P_R_damageOf (Θ : mW) (N : Nat) (h : mH) (a0 : Nat) (a1 : Int32) : Option (Int32 × mH) :=
  (gO Θ h 9 a0 (bc (P_R_asks Θ N h a0 a1 (J 6)) (fun v2 h1 => (some (v2, h1)))))
theorem S_R_damageOf (hfl : HF l Θ) (hD : 5 ≤ d) (h : mH) (a0 : Nat) (a1 : Int32) : mMs l Θ d M_R_damageOf [.ref a0, .int a1] h (tR vI) (P_R_damageOf Θ N h a0 a1) := by
  refine mMs.of hfl (by decide +kernel) rfl (Nat.le_of_ble_eq_true rfl) (loc := [some (.ref a0), some (.int a1)]) rfl ?_
  unfold P_R_damageOf
  refine y_aload_n d_R_damageOf_0 rfl ?_
  refine y_iload_n d_R_damageOf_1 rfl ?_
  refine y_bipush (v := (J 6)) d_R_damageOf_2 (by decide +kernel) ?_
  refine y_gO (fun fs1 g1 => y_cI (c_vi (rest := []) d_R_damageOf_4 k_R_asks s_R_182 (Or.inl ⟨_, _, _, g1, rfl, rfl⟩) rfl rfl (Nat.le_of_ble_eq_true rfl) (Nat.le_trans (Nat.le_of_ble_eq_true rfl : 4 + 1 ≤ 5) hD) (S_R_asks hfl (Nat.le_refl _) h a0 a1 (J 6))) (fun v2 h1 => ?_))
  exact y_retI d_R_damageOf_7 rfl rfl
noncomputable def P_R_hoursAfloat (Θ : mW) (N : Nat) (h : mH) (a0 : Nat) (a1 : Int32) : Option (Int32 × mH) :=
  (gO Θ h 9 a0 (bc (P_R_asks Θ N h a0 a1 (J 7)) (fun v2 h1 => (some (v2, h1)))))
theorem S_R_hoursAfloat (hfl : HF l Θ) (hD : 5 ≤ d) (h : mH) (a0 : Nat) (a1 : Int32) : mMs l Θ d M_R_hoursAfloat [.ref a0, .int a1] h (tR vI) (P_R_hoursAfloat Θ N h a0 a1) := by
  refine mMs.of hfl (by decide +kernel) rfl (Nat.le_of_ble_eq_true rfl) (loc := [some (.ref a0), some (.int a1)]) rfl ?_
  unfold P_R_hoursAfloat
  refine y_aload_n d_R_hoursAfloat_0 rfl ?_
  refine y_iload_n d_R_hoursAfloat_1 rfl ?_
  refine y_bipush (v := (J 7)) d_R_hoursAfloat_2 (by decide +kernel) ?_
  refine y_gO (fun fs1 g1 => y_cI (c_vi (rest := []) d_R_hoursAfloat_4 k_R_asks s_R_182 (Or.inl ⟨_, _, _, g1, rfl, rfl⟩) rfl rfl (Nat.le_of_ble_eq_true rfl) (Nat.le_trans (Nat.le_of_ble_eq_true rfl : 4 + 1 ≤ 5) hD) (S_R_asks hfl (Nat.le_refl _) h a0 a1 (J 7))) (fun v2 h1 => ?_))
  exact y_retI d_R_hoursAfloat_7 rfl rfl
noncomputable def P_R_isAfloat (Θ : mW) (N : Nat) (h : mH) (a0 : Nat) (a1 : Int32) : Option (Int32 × mH) :=
  (gO Θ h 9 a0 (bc (P_R_find Θ N h a0 a1) (fun v2 h1 => (jn (fun (h4 : mH) (s5 : Int32) => (gO Θ h4 9 a0 (bc (P_R_goes Θ N h4 a0 s5) (fun v7 h6 => (if v7 = 0 then (some ((J 0), h6)) else (gO Θ h6 9 a0 (bc (P_R_floats Θ N h6 a0 v2) (fun v9 h8 => (if v9 = 0 then (some ((J 0), h8)) else (some ((J 1), h8))))))))))) (fun j3 => (if v2 = (J (-1)) then (j3 h1 (J 0)) else (j3 h1 (J 1))))))))
theorem S_R_isAfloat (hfl : HF l Θ) (hD : 5 ≤ d) (h : mH) (a0 : Nat) (a1 : Int32) : mMs l Θ d M_R_isAfloat [.ref a0, .int a1] h (tR vI) (P_R_isAfloat Θ N h a0 a1) := by
  refine mMs.of hfl (by decide +kernel) rfl (Nat.le_of_ble_eq_true rfl) (loc := [some (.ref a0), some (.int a1), none]) rfl ?_
  unfold P_R_isAfloat
  refine y_aload_n d_R_isAfloat_0 rfl ?_
  refine y_iload_n d_R_isAfloat_1 rfl ?_
  refine y_gO (fun fs1 g1 => y_cI (c_vi (rest := []) d_R_isAfloat_2 k_R_find s_R_104 (Or.inl ⟨_, _, _, g1, rfl, rfl⟩) rfl rfl (Nat.le_of_ble_eq_true rfl) (Nat.le_trans (Nat.le_of_ble_eq_true rfl : 3 + 1 ≤ 5) hD) (S_R_find hfl (Nat.le_refl _) h a0 a1)) (fun v2 h1 => ?_))
  refine y_istore_n (loc2 := [some (.ref a0), some (.int a1), some (.int v2)]) d_R_isAfloat_5 (Nat.le_of_ble_eq_true rfl) rfl rfl ?_
  refine y_aload_n d_R_isAfloat_6 rfl ?_
  refine y_iload_n d_R_isAfloat_7 rfl ?_
  refine y_iconst (v := (J (-1))) d_R_isAfloat_8 rfl ?_
  refine y_jn (C := fun (j9 : mH → Int32 → Option (Int32 × mH)) => ∀ (h4 : mH) (s5 : Int32), mY l Θ d M_R_isAfloat 17 [some (.ref a0), none, some (.int v2)] [.int s5, .ref a0] h4 (tR vI) (j9 h4 s5)) (fun h4 s5 => ?_) (fun j3 Hj3 => ?_)
  · refine y_gO (fun fs1 g1 => y_cI (c_vi (rest := []) d_R_isAfloat_17 k_R_goes s_R_59 (Or.inl ⟨_, _, _, g1, rfl, rfl⟩) rfl rfl (Nat.le_of_ble_eq_true rfl) (Nat.le_trans (Nat.le_of_ble_eq_true rfl : 2 + 1 ≤ 5) hD) (S_R_goes hfl (Nat.le_refl _) h4 a0 s5)) (fun v7 h6 => ?_))
    refine y_if_eq (tgt := 35) d_R_isAfloat_20 (by decide) ?_ ?_
    · refine y_iconst (v := (J 0)) d_R_isAfloat_35 rfl ?_
      exact y_retI d_R_isAfloat_36 rfl (by decide +kernel)
    · refine y_aload_n d_R_isAfloat_23 rfl ?_
      refine y_iload_n d_R_isAfloat_24 rfl ?_
      refine y_gO (fun fs1 g1 => y_cI (c_vi (rest := []) d_R_isAfloat_25 k_R_floats s_R_128 (Or.inl ⟨_, _, _, g1, rfl, rfl⟩) rfl rfl (Nat.le_of_ble_eq_true rfl) (Nat.le_trans (Nat.le_of_ble_eq_true rfl : 4 + 1 ≤ 5) hD) (S_R_floats hfl (Nat.le_refl _) h6 a0 v2)) (fun v9 h8 => ?_))
      refine y_if_eq (tgt := 35) d_R_isAfloat_28 (by decide) ?_ ?_
      · refine y_iconst (v := (J 0)) d_R_isAfloat_35 rfl ?_
        exact y_retI d_R_isAfloat_36 rfl (by decide +kernel)
      · refine y_iconst (v := (J 1)) d_R_isAfloat_31 rfl ?_
        refine y_goto (tgt := 36) d_R_isAfloat_32 (by decide) ?_
        exact y_retI d_R_isAfloat_36 rfl (by decide +kernel)
  · refine y_icmp_eq (tgt := 16) d_R_isAfloat_9 (by decide) ?_ ?_
    · refine y_iconst (v := (J 0)) d_R_isAfloat_16 rfl ?_
      exact y_wk (loc2 := [some (.ref a0), none, some (.int v2)]) ⟨rfl, ⟨rfl, trivial⟩⟩ (Hj3 h1 (J 0))
    · refine y_iconst (v := (J 1)) d_R_isAfloat_12 rfl ?_
      refine y_goto (tgt := 17) d_R_isAfloat_13 (by decide) ?_
      exact y_wk (loc2 := [some (.ref a0), none, some (.int v2)]) ⟨rfl, ⟨rfl, trivial⟩⟩ (Hj3 h1 (J 1))
noncomputable def P_R_refusalReason (Θ : mW) (N : Nat) (h : mH) (a0 : Nat) : Option (Int32 × mH) :=
  (bo (rI Θ h 9 a0 8) (fun v1 => (jn (fun (h3 : mH) (s4 : Int32) => (gO Θ h3 9 a0 (bc (P_R_goes Θ N h3 a0 s4) (fun v6 h5 => (if v6 = 0 then (some ((J 0), h5)) else (bo (rI Θ h5 9 a0 8) (fun v7 => (some (v7, h5))))))))) (fun j2 => (if v1 = 0 then (j2 h (J 0)) else (j2 h (J 1)))))))
theorem S_R_refusalReason (hfl : HF l Θ) (hD : 3 ≤ d) (h : mH) (a0 : Nat) : mMs l Θ d M_R_refusalReason [.ref a0] h (tR vI) (P_R_refusalReason Θ N h a0) := by
  refine mMs.of hfl (by decide +kernel) rfl (Nat.le_of_ble_eq_true rfl) (loc := [some (.ref a0)]) rfl ?_
  unfold P_R_refusalReason
  refine y_aload_n d_R_refusalReason_0 rfl ?_
  refine y_aload_n d_R_refusalReason_1 rfl ?_
  refine y_getI d_R_refusalReason_2 f_R_110 (fun v1 => ?_)
  refine y_jn (C := fun (j9 : mH → Int32 → Option (Int32 × mH)) => ∀ (h3 : mH) (s4 : Int32), mY l Θ d M_R_refusalReason 13 [some (.ref a0)] [.int s4, .ref a0] h3 (tR vI) (j9 h3 s4)) (fun h3 s4 => ?_) (fun j2 Hj2 => ?_)
  · refine y_gO (fun fs1 g1 => y_cI (c_vi (rest := []) d_R_refusalReason_13 k_R_goes s_R_59 (Or.inl ⟨_, _, _, g1, rfl, rfl⟩) rfl rfl (Nat.le_of_ble_eq_true rfl) (Nat.le_trans (Nat.le_of_ble_eq_true rfl : 2 + 1 ≤ 3) hD) (S_R_goes hfl (Nat.le_refl _) h3 a0 s4)) (fun v6 h5 => ?_))
    refine y_if_eq (tgt := 26) d_R_refusalReason_16 (by decide) ?_ ?_
    · refine y_iconst (v := (J 0)) d_R_refusalReason_26 rfl ?_
      exact y_retI d_R_refusalReason_27 rfl rfl
    · refine y_aload_n d_R_refusalReason_19 rfl ?_
      refine y_getI d_R_refusalReason_20 f_R_110 (fun v7 => ?_)
      refine y_goto (tgt := 27) d_R_refusalReason_23 (by decide) ?_
      exact y_retI d_R_refusalReason_27 rfl rfl
  · refine y_if_eq (tgt := 12) d_R_refusalReason_5 (by decide) ?_ ?_
    · refine y_iconst (v := (J 0)) d_R_refusalReason_12 rfl ?_
      exact Hj2 h (J 0)
    · refine y_iconst (v := (J 1)) d_R_refusalReason_8 rfl ?_
      refine y_goto (tgt := 13) d_R_refusalReason_9 (by decide) ?_
      exact Hj2 h (J 1)
noncomputable def P_R_billOf (Θ : mW) (N : Nat) (h : mH) (a0 : Nat) (a1 : Int32) : Option (Int32 × mH) :=
  (gO Θ h 9 a0 (bc (P_R_asks Θ N h a0 a1 (J 8)) (fun v2 h1 => (some (v2, h1)))))
theorem S_R_billOf (hfl : HF l Θ) (hD : 5 ≤ d) (h : mH) (a0 : Nat) (a1 : Int32) : mMs l Θ d M_R_billOf [.ref a0, .int a1] h (tR vI) (P_R_billOf Θ N h a0 a1) := by
  refine mMs.of hfl (by decide +kernel) rfl (Nat.le_of_ble_eq_true rfl) (loc := [some (.ref a0), some (.int a1)]) rfl ?_
  unfold P_R_billOf
  refine y_aload_n d_R_billOf_0 rfl ?_
  refine y_iload_n d_R_billOf_1 rfl ?_
  refine y_bipush (v := (J 8)) d_R_billOf_2 (by decide +kernel) ?_
  refine y_gO (fun fs1 g1 => y_cI (c_vi (rest := []) d_R_billOf_4 k_R_asks s_R_182 (Or.inl ⟨_, _, _, g1, rfl, rfl⟩) rfl rfl (Nat.le_of_ble_eq_true rfl) (Nat.le_trans (Nat.le_of_ble_eq_true rfl : 4 + 1 ≤ 5) hD) (S_R_asks hfl (Nat.le_refl _) h a0 a1 (J 8))) (fun v2 h1 => ?_))
  exact y_retI d_R_billOf_7 rfl rfl
noncomputable def P_R_isGateOpen (Θ : mW) (N : Nat) (h : mH) (a0 : Nat) : Option (Int32 × mH) :=
  (bo (wF Θ h 9 a0 13 (.int (J 0))) (fun h1 => (bo (rA Θ h1 9 a0 0) (fun v2 => (bo (aR Θ h1 0 v2 (J 2)) (fun v3 => (if v3 = (J 1) then (some ((J 1), h1)) else (some ((J 0), h1)))))))))
theorem S_R_isGateOpen (hfl : HF l Θ) (hD : 1 ≤ d) (h : mH) (a0 : Nat) : mMs l Θ d M_R_isGateOpen [.ref a0] h (tR vI) (P_R_isGateOpen Θ N h a0) := by
  refine mMs.of hfl (by decide +kernel) rfl (Nat.le_of_ble_eq_true rfl) (loc := [some (.ref a0)]) rfl ?_
  unfold P_R_isGateOpen
  refine y_aload_n d_R_isGateOpen_0 rfl ?_
  refine y_iconst (v := (J 0)) d_R_isGateOpen_1 rfl ?_
  refine y_put d_R_isGateOpen_2 p_R_42 rfl rfl (fun h1 => ?_)
  refine y_aload_n d_R_isGateOpen_5 rfl ?_
  refine y_getA d_R_isGateOpen_6 f_R_9 (fun v2 => ?_)
  refine y_iconst (v := (J 2)) d_R_isGateOpen_9 rfl ?_
  refine y_iald d_R_isGateOpen_10 (fun v3 => ?_)
  refine y_iconst (v := (J 1)) d_R_isGateOpen_11 rfl ?_
  refine y_icmp_ne (tgt := 19) d_R_isGateOpen_12 (by decide) ?_ ?_
  · refine y_iconst (v := (J 0)) d_R_isGateOpen_19 rfl ?_
    exact y_retI d_R_isGateOpen_20 rfl (by decide +kernel)
  · refine y_iconst (v := (J 1)) d_R_isGateOpen_15 rfl ?_
    refine y_goto (tgt := 20) d_R_isGateOpen_16 (by decide) ?_
    exact y_retI d_R_isGateOpen_20 rfl (by decide +kernel)
noncomputable def P_R_level (Θ : mW) (N : Nat) (h : mH) (a0 : Nat) : Option (Int32 × mH) :=
  (bo (wF Θ h 9 a0 13 (.int (J 0))) (fun h1 => (bo (rA Θ h1 9 a0 0) (fun v2 => (bo (aR Θ h1 0 v2 (J 1)) (fun v3 => (some (v3, h1))))))))
theorem S_R_level (hfl : HF l Θ) (hD : 1 ≤ d) (h : mH) (a0 : Nat) : mMs l Θ d M_R_level [.ref a0] h (tR vI) (P_R_level Θ N h a0) := by
  refine mMs.of hfl (by decide +kernel) rfl (Nat.le_of_ble_eq_true rfl) (loc := [some (.ref a0)]) rfl ?_
  unfold P_R_level
  refine y_aload_n d_R_level_0 rfl ?_
  refine y_iconst (v := (J 0)) d_R_level_1 rfl ?_
  refine y_put d_R_level_2 p_R_42 rfl rfl (fun h1 => ?_)
  refine y_aload_n d_R_level_5 rfl ?_
  refine y_getA d_R_level_6 f_R_9 (fun v2 => ?_)
  refine y_iconst (v := (J 1)) d_R_level_9 rfl ?_
  refine y_iald d_R_level_10 (fun v3 => ?_)
  exact y_retI d_R_level_11 rfl rfl
noncomputable def P_R_sea (Θ : mW) (N : Nat) (h : mH) (a0 : Nat) (a1 : Int32) : Option (Int32 × mH) :=
  (bc (P_R_isIn Θ N h a1 (J 0) (J 9999)) (fun v2 h1 => (gO Θ h1 9 a0 (bc (P_R_goes Θ N h1 a0 v2) (fun v4 h3 => (if v4 = 0 then (some ((J 0), h3)) else (bc (P_R_seaAt Θ N h3 a1) (fun v6 h5 => (some (v6, h5))))))))))
theorem S_R_sea (hfl : HF l Θ) (hD : 3 ≤ d) (h : mH) (a0 : Nat) (a1 : Int32) : mMs l Θ d M_R_sea [.ref a0, .int a1] h (tR vI) (P_R_sea Θ N h a0 a1) := by
  refine mMs.of hfl (by decide +kernel) rfl (Nat.le_of_ble_eq_true rfl) (loc := [some (.ref a0), some (.int a1)]) rfl ?_
  unfold P_R_sea
  refine y_aload_n d_R_sea_0 rfl ?_
  refine y_iload_n d_R_sea_1 rfl ?_
  refine y_iconst (v := (J 0)) d_R_sea_2 rfl ?_
  refine y_sipush (v := (J 9999)) d_R_sea_3 (by decide +kernel) ?_
  refine y_cI (c_st (rest := [.ref a0]) d_R_sea_6 k_R_isIn s_R_83 rfl rfl (Nat.le_of_ble_eq_true rfl) (Nat.le_trans (Nat.le_of_ble_eq_true rfl : 1 + 1 ≤ 3) hD) (S_R_isIn hfl (Nat.le_refl _) h a1 (J 0) (J 9999))) (fun v2 h1 => ?_)
  refine y_gO (fun fs1 g1 => y_cI (c_vi (rest := []) d_R_sea_9 k_R_goes s_R_59 (Or.inl ⟨_, _, _, g1, rfl, rfl⟩) rfl rfl (Nat.le_of_ble_eq_true rfl) (Nat.le_trans (Nat.le_of_ble_eq_true rfl : 2 + 1 ≤ 3) hD) (S_R_goes hfl (Nat.le_refl _) h1 a0 v2)) (fun v4 h3 => ?_))
  refine y_if_eq (tgt := 22) d_R_sea_12 (by decide) ?_ ?_
  · refine y_iconst (v := (J 0)) d_R_sea_22 rfl ?_
    exact y_retI d_R_sea_23 rfl rfl
  · refine y_iload_n d_R_sea_15 rfl ?_
    refine y_cI (c_st (rest := []) d_R_sea_16 k_R_seaAt s_R_140 rfl rfl (Nat.le_of_ble_eq_true rfl) (Nat.le_trans (Nat.le_of_ble_eq_true rfl : 1 + 1 ≤ 3) hD) (S_R_seaAt hfl (Nat.le_refl _) h3 a1)) (fun v6 h5 => ?_)
    refine y_goto (tgt := 23) d_R_sea_19 (by decide) ?_
    exact y_retI d_R_sea_23 rfl rfl
noncomputable def P_R_seaLevel (Θ : mW) (N : Nat) (h : mH) (a0 : Nat) (a1 : Int32) : Option (Int32 × mH) :=
  (gO Θ h 9 a0 (bc (P_R_sea Θ N h a0 a1) (fun v2 h1 => (some (v2, h1)))))
theorem S_R_seaLevel (hfl : HF l Θ) (hD : 4 ≤ d) (h : mH) (a0 : Nat) (a1 : Int32) : mMs l Θ d M_R_seaLevel [.ref a0, .int a1] h (tR vI) (P_R_seaLevel Θ N h a0 a1) := by
  refine mMs.of hfl (by decide +kernel) rfl (Nat.le_of_ble_eq_true rfl) (loc := [some (.ref a0), some (.int a1)]) rfl ?_
  unfold P_R_seaLevel
  refine y_aload_n d_R_seaLevel_0 rfl ?_
  refine y_iload_n d_R_seaLevel_1 rfl ?_
  refine y_gO (fun fs1 g1 => y_cI (c_vi (rest := []) d_R_seaLevel_2 k_R_sea s_R_185 (Or.inl ⟨_, _, _, g1, rfl, rfl⟩) rfl rfl (Nat.le_of_ble_eq_true rfl) (Nat.le_trans (Nat.le_of_ble_eq_true rfl : 3 + 1 ≤ 4) hD) (S_R_sea hfl (Nat.le_refl _) h a0 a1)) (fun v2 h1 => ?_))
  exact y_retI d_R_seaLevel_5 rfl rfl
noncomputable def P_R_seaLevelByHours (Θ : mW) (N : Nat) (h : mH) (a0 : Nat) (a1 : Int32) : Option (Int32 × mH) :=
  (gO Θ h 9 a0 (bc (P_R_sea Θ N h a0 a1) (fun v2 h1 => (some (v2, h1)))))
theorem S_R_seaLevelByHours (hfl : HF l Θ) (hD : 4 ≤ d) (h : mH) (a0 : Nat) (a1 : Int32) : mMs l Θ d M_R_seaLevelByHours [.ref a0, .int a1] h (tR vI) (P_R_seaLevelByHours Θ N h a0 a1) := by
  refine mMs.of hfl (by decide +kernel) rfl (Nat.le_of_ble_eq_true rfl) (loc := [some (.ref a0), some (.int a1)]) rfl ?_
  unfold P_R_seaLevelByHours
  refine y_aload_n d_R_seaLevelByHours_0 rfl ?_
  refine y_iload_n d_R_seaLevelByHours_1 rfl ?_
  refine y_gO (fun fs1 g1 => y_cI (c_vi (rest := []) d_R_seaLevelByHours_2 k_R_sea s_R_185 (Or.inl ⟨_, _, _, g1, rfl, rfl⟩) rfl rfl (Nat.le_of_ble_eq_true rfl) (Nat.le_trans (Nat.le_of_ble_eq_true rfl : 3 + 1 ≤ 4) hD) (S_R_sea hfl (Nat.le_refl _) h a0 a1)) (fun v2 h1 => ?_))
  exact y_retI d_R_seaLevelByHours_5 rfl rfl
noncomputable def P_R_hour (Θ : mW) (N : Nat) (h : mH) (a0 : Nat) : Option (Int32 × mH) :=
  (bo (wF Θ h 9 a0 13 (.int (J 0))) (fun h1 => (bo (rA Θ h1 9 a0 0) (fun v2 => (bo (aR Θ h1 0 v2 (J 0)) (fun v3 => (some (v3, h1))))))))
theorem S_R_hour (hfl : HF l Θ) (hD : 1 ≤ d) (h : mH) (a0 : Nat) : mMs l Θ d M_R_hour [.ref a0] h (tR vI) (P_R_hour Θ N h a0) := by
  refine mMs.of hfl (by decide +kernel) rfl (Nat.le_of_ble_eq_true rfl) (loc := [some (.ref a0)]) rfl ?_
  unfold P_R_hour
  refine y_aload_n d_R_hour_0 rfl ?_
  refine y_iconst (v := (J 0)) d_R_hour_1 rfl ?_
  refine y_put d_R_hour_2 p_R_42 rfl rfl (fun h1 => ?_)
  refine y_aload_n d_R_hour_5 rfl ?_
  refine y_getA d_R_hour_6 f_R_9 (fun v2 => ?_)
  refine y_iconst (v := (J 0)) d_R_hour_9 rfl ?_
  refine y_iald d_R_hour_10 (fun v3 => ?_)
  exact y_retI d_R_hour_11 rfl rfl
noncomputable def B_R_levelAfter_9 (Θ : mW) (N : Nat) (K40 : mH → Int32 → Option (Int32 × mH)) (f0_ : Nat) (f1_ : Int32) (rc : mH → Int32 → Int32 → Option (Int32 × mH)) (h : mH) (v2_ : Int32) (v3_ : Int32) : Option (Int32 × mH) :=
  (if f1_ < v3_ then (K40 h v2_) else (if (J 96) < f1_ then (K40 h v2_) else (bo (rA Θ h 9 f0_ 0) (fun v3 => (bo (aR Θ h 0 v3 (J 0)) (fun v4 => (gO Θ h 9 f0_ (bc (P_R_levelThen Θ N h f0_ v2_ (v4 + v3_)) (fun v6 h5 => (rc h5 v6 (v3_ + (J 1))))))))))))
noncomputable def P_R_levelAfter_9 (Θ : mW) (N : Nat) (K40 : mH → Int32 → Option (Int32 × mH)) (f0_ : Nat) (f1_ : Int32) : Nat → mH → Int32 → Int32 → Option (Int32 × mH) :=
  lp (fun _ _ _ => none) (B_R_levelAfter_9 Θ N K40 f0_ f1_)
noncomputable def P_R_levelAfter (Θ : mW) (N : Nat) (h : mH) (a0 : Nat) (a1 : Int32) : Option (Int32 × mH) :=
  (bo (rA Θ h 9 a0 0) (fun v1 => (bo (aR Θ h 0 v1 (J 1)) (fun v2 => (P_R_levelAfter_9 Θ N (fun h7 u8 => (bc (P_R_isIn Θ N h7 a1 (J 0) (J 96)) (fun v10 h9 => (gO Θ h9 9 a0 (bc (P_R_goes Θ N h9 a0 v10) (fun v12 h11 => (if v12 = 0 then (some ((J 0), h11)) else (some (u8, h11))))))))) a0 a1 N h v2 (J 1))))))
theorem SB_R_levelAfter_9 (hfl : HF l Θ) (hD : 3 ≤ d) {K40 : mH → Int32 → Option (Int32 × mH)} {f0_ : Nat} {f1_ : Int32}  (hK40 : ∀ (h : mH) (v2_ : Int32), mY l Θ d M_R_levelAfter 40 [some (.ref f0_), some (.int f1_), some (.int v2_), none] [] h (tR vI) (K40 h v2_)) (rc : mH → Int32 → Int32 → Option (Int32 × mH)) (ih : ∀ (h : mH) (v2_ : Int32) (v3_ : Int32), mY l Θ d M_R_levelAfter 9 [some (.ref f0_), some (.int f1_), some (.int v2_), some (.int v3_)] [] h (tR vI) (rc h v2_ v3_)) : ∀ (h : mH) (v2_ : Int32) (v3_ : Int32), mY l Θ d M_R_levelAfter 9 [some (.ref f0_), some (.int f1_), some (.int v2_), some (.int v3_)] [] h (tR vI) (B_R_levelAfter_9 Θ N K40 f0_ f1_ rc h v2_ v3_) := by
  intro h v2_ v3_
  unfold B_R_levelAfter_9
  refine y_iload_n d_R_levelAfter_9 rfl ?_
  refine y_iload_n d_R_levelAfter_10 rfl ?_
  refine y_icmp_gt (tgt := 40) d_R_levelAfter_11 (by decide) ?_ ?_
  · exact y_wk (loc2 := [some (.ref f0_), some (.int f1_), some (.int v2_), none]) ⟨rfl, ⟨rfl, ⟨rfl, trivial⟩⟩⟩ (hK40 h v2_)
  · refine y_iload_n d_R_levelAfter_14 rfl ?_
    refine y_bipush (v := (J 96)) d_R_levelAfter_15 (by decide +kernel) ?_
    refine y_icmp_gt (tgt := 40) d_R_levelAfter_17 (by decide) ?_ ?_
    · exact y_wk (loc2 := [some (.ref f0_), some (.int f1_), some (.int v2_), none]) ⟨rfl, ⟨rfl, ⟨rfl, trivial⟩⟩⟩ (hK40 h v2_)
    · refine y_aload_n d_R_levelAfter_20 rfl ?_
      refine y_iload_n d_R_levelAfter_21 rfl ?_
      refine y_aload_n d_R_levelAfter_22 rfl ?_
      refine y_getA d_R_levelAfter_23 f_R_9 (fun v3 => ?_)
      refine y_iconst (v := (J 0)) d_R_levelAfter_26 rfl ?_
      refine y_iald d_R_levelAfter_27 (fun v4 => ?_)
      refine y_iload_n d_R_levelAfter_28 rfl ?_
      refine y_iadd (v := (v4 + v3_)) d_R_levelAfter_29 rfl ?_
      refine y_gO (fun fs1 g1 => y_cI (c_vi (rest := []) d_R_levelAfter_30 k_R_levelThen s_R_173 (Or.inl ⟨_, _, _, g1, rfl, rfl⟩) rfl rfl (Nat.le_of_ble_eq_true rfl) (Nat.le_trans (Nat.le_of_ble_eq_true rfl : 2 + 1 ≤ 3) hD) (S_R_levelThen hfl (Nat.le_refl _) h f0_ v2_ (v4 + v3_))) (fun v6 h5 => ?_))
      refine y_istore_n (loc2 := [some (.ref f0_), some (.int f1_), some (.int v6), some (.int v3_)]) d_R_levelAfter_33 (Nat.le_of_ble_eq_true rfl) rfl rfl ?_
      refine y_iinc (v := (v3_ + (J 1))) (loc2 := [some (.ref f0_), some (.int f1_), some (.int v6), some (.int (v3_ + (J 1)))]) d_R_levelAfter_34 rfl rfl (Nat.le_of_ble_eq_true rfl) rfl rfl ?_
      refine y_goto (tgt := 9) d_R_levelAfter_37 (by decide) ?_
      exact ih h5 v6 (v3_ + (J 1))
theorem S_R_levelAfter_9 (hfl : HF l Θ) (hD : 3 ≤ d) {K40 : mH → Int32 → Option (Int32 × mH)} {f0_ : Nat} {f1_ : Int32}  (hK40 : ∀ (h : mH) (v2_ : Int32), mY l Θ d M_R_levelAfter 40 [some (.ref f0_), some (.int f1_), some (.int v2_), none] [] h (tR vI) (K40 h v2_)) : ∀ (n : Nat) (h : mH) (v2_ : Int32) (v3_ : Int32), mY l Θ d M_R_levelAfter 9 [some (.ref f0_), some (.int f1_), some (.int v2_), some (.int v3_)] [] h (tR vI) (P_R_levelAfter_9 Θ N K40 f0_ f1_ n h v2_ v3_) :=
  fun n => lp_all (C := fun (rc : mH → Int32 → Int32 → Option (Int32 × mH)) => ∀ (h : mH) (v2_ : Int32) (v3_ : Int32), mY l Θ d M_R_levelAfter 9 [some (.ref f0_), some (.int f1_), some (.int v2_), some (.int v3_)] [] h (tR vI) (rc h v2_ v3_)) (fun _ _ _ => y_none) (fun rc ih => SB_R_levelAfter_9 hfl hD hK40 rc ih) n
theorem S_R_levelAfter (hfl : HF l Θ) (hD : 3 ≤ d) (h : mH) (a0 : Nat) (a1 : Int32) : mMs l Θ d M_R_levelAfter [.ref a0, .int a1] h (tR vI) (P_R_levelAfter Θ N h a0 a1) := by
  refine mMs.of hfl (by decide +kernel) rfl (Nat.le_of_ble_eq_true rfl) (loc := [some (.ref a0), some (.int a1), none, none]) rfl ?_
  unfold P_R_levelAfter
  refine y_aload_n d_R_levelAfter_0 rfl ?_
  refine y_getA d_R_levelAfter_1 f_R_9 (fun v1 => ?_)
  refine y_iconst (v := (J 1)) d_R_levelAfter_4 rfl ?_
  refine y_iald d_R_levelAfter_5 (fun v2 => ?_)
  refine y_istore_n (loc2 := [some (.ref a0), some (.int a1), some (.int v2), none]) d_R_levelAfter_6 (Nat.le_of_ble_eq_true rfl) rfl rfl ?_
  refine y_iconst (v := (J 1)) d_R_levelAfter_7 rfl ?_
  refine y_istore_n (loc2 := [some (.ref a0), some (.int a1), some (.int v2), some (.int (J 1))]) d_R_levelAfter_8 (Nat.le_of_ble_eq_true rfl) rfl rfl ?_
  refine S_R_levelAfter_9 hfl hD (fun h7 u8 => ?_) N h v2 (J 1)
  refine y_aload_n d_R_levelAfter_40 rfl ?_
  refine y_iload_n d_R_levelAfter_41 rfl ?_
  refine y_iconst (v := (J 0)) d_R_levelAfter_42 rfl ?_
  refine y_bipush (v := (J 96)) d_R_levelAfter_43 (by decide +kernel) ?_
  refine y_cI (c_st (rest := [.ref a0]) d_R_levelAfter_45 k_R_isIn s_R_83 rfl rfl (Nat.le_of_ble_eq_true rfl) (Nat.le_trans (Nat.le_of_ble_eq_true rfl : 1 + 1 ≤ 3) hD) (S_R_isIn hfl (Nat.le_refl _) h7 a1 (J 0) (J 96))) (fun v10 h9 => ?_)
  refine y_gO (fun fs1 g1 => y_cI (c_vi (rest := []) d_R_levelAfter_48 k_R_goes s_R_59 (Or.inl ⟨_, _, _, g1, rfl, rfl⟩) rfl rfl (Nat.le_of_ble_eq_true rfl) (Nat.le_trans (Nat.le_of_ble_eq_true rfl : 2 + 1 ≤ 3) hD) (S_R_goes hfl (Nat.le_refl _) h9 a0 v10)) (fun v12 h11 => ?_))
  refine y_if_eq (tgt := 58) d_R_levelAfter_51 (by decide) ?_ ?_
  · refine y_iconst (v := (J 0)) d_R_levelAfter_58 rfl ?_
    exact y_retI d_R_levelAfter_59 rfl rfl
  · refine y_iload_n d_R_levelAfter_54 rfl ?_
    refine y_goto (tgt := 59) d_R_levelAfter_55 (by decide) ?_
    exact y_retI d_R_levelAfter_59 rfl rfl
noncomputable def B_R_hoursUntilAfloat_31 (Θ : mW) (N : Nat) (K84 : mH → Int32 → Option (Int32 × mH)) (f0_ : Nat) (f2_ : Int32) (rc : mH → Int32 → Int32 → Int32 → Option (Int32 × mH)) (h : mH) (v3_ : Int32) (v4_ : Int32) (v5_ : Int32) : Option (Int32 × mH) :=
  (if (J 96) < v5_ then (K84 h v3_) else (if v3_ = (J (-1)) then (bo (rA Θ h 9 f0_ 0) (fun v10 => (bo (aR Θ h 0 v10 (J 0)) (fun v11 => (gO Θ h 9 f0_ (bc (P_R_levelThen Θ N h f0_ v4_ (v11 + v5_)) (fun v13 h12 => (gO Θ h12 9 f0_ (bc (P_R_of Θ N h12 f0_ f2_ (J 2)) (fun v15 h14 => (jn (fun (h17 : mH) (s18 : Int32) => (rc h17 s18 v13 (v5_ + (J 1)))) (fun j16 => (if v13 < v15 then (j16 h14 (J (-1))) else (j16 h14 v5_)))))))))))))) else (K84 h v3_)))
noncomputable def P_R_hoursUntilAfloat_31 (Θ : mW) (N : Nat) (K84 : mH → Int32 → Option (Int32 × mH)) (f0_ : Nat) (f2_ : Int32) : Nat → mH → Int32 → Int32 → Int32 → Option (Int32 × mH) :=
  lp (fun _ _ _ _ => none) (B_R_hoursUntilAfloat_31 Θ N K84 f0_ f2_)
noncomputable def P_R_hoursUntilAfloat (Θ : mW) (N : Nat) (h : mH) (a0 : Nat) (a1 : Int32) : Option (Int32 × mH) :=
  (gO Θ h 9 a0 (bc (P_R_find Θ N h a0 a1) (fun v2 h1 => (gO Θ h1 9 a0 (bc (P_R_floats Θ N h1 a0 v2) (fun v4 h3 => (jn (fun (h6 : mH) (s7 : Int32) => (bo (rA Θ h6 9 a0 0) (fun v8 => (bo (aR Θ h6 0 v8 (J 1)) (fun v9 => (P_R_hoursUntilAfloat_31 Θ N (fun h19 u20 => (jn (fun (h22 : mH) (s23 : Int32) => (jn (fun (h25 : mH) (s26 : Int32) => (gO Θ h25 9 a0 (bc (P_R_holds Θ N h25 a0 s23 s26 (J 1) (J 1)) (fun v28 h27 => (if v28 = 0 then (some ((J 0), h27)) else (some (u20, h27))))))) (fun j24 => (if u20 = (J (-1)) then (j24 h22 (J 0)) else (j24 h22 (J 1)))))) (fun j21 => (if v2 = (J (-1)) then (j21 h19 (J 0)) else (j21 h19 (J 1)))))) a0 v2 N h6 s7 v9 (J 1))))))) (fun j5 => (if v4 = 0 then (j5 h3 (J (-1))) else (j5 h3 (J 0)))))))))))
theorem SB_R_hoursUntilAfloat_31 (hfl : HF l Θ) (hD : 5 ≤ d) {K84 : mH → Int32 → Option (Int32 × mH)} {f0_ : Nat} {f2_ : Int32}  (hK84 : ∀ (h : mH) (v3_ : Int32), mY l Θ d M_R_hoursUntilAfloat 84 [some (.ref f0_), none, some (.int f2_), some (.int v3_), none, none] [] h (tR vI) (K84 h v3_)) (rc : mH → Int32 → Int32 → Int32 → Option (Int32 × mH)) (ih : ∀ (h : mH) (v3_ : Int32) (v4_ : Int32) (v5_ : Int32), mY l Θ d M_R_hoursUntilAfloat 31 [some (.ref f0_), none, some (.int f2_), some (.int v3_), some (.int v4_), some (.int v5_)] [] h (tR vI) (rc h v3_ v4_ v5_)) : ∀ (h : mH) (v3_ : Int32) (v4_ : Int32) (v5_ : Int32), mY l Θ d M_R_hoursUntilAfloat 31 [some (.ref f0_), none, some (.int f2_), some (.int v3_), some (.int v4_), some (.int v5_)] [] h (tR vI) (B_R_hoursUntilAfloat_31 Θ N K84 f0_ f2_ rc h v3_ v4_ v5_) := by
  intro h v3_ v4_ v5_
  unfold B_R_hoursUntilAfloat_31
  refine y_iload d_R_hoursUntilAfloat_31 rfl ?_
  refine y_bipush (v := (J 96)) d_R_hoursUntilAfloat_33 (by decide +kernel) ?_
  refine y_icmp_gt (tgt := 84) d_R_hoursUntilAfloat_35 (by decide) ?_ ?_
  · exact y_wk (loc2 := [some (.ref f0_), none, some (.int f2_), some (.int v3_), none, none]) ⟨rfl, ⟨rfl, ⟨rfl, trivial⟩⟩⟩ (hK84 h v3_)
  · refine y_iload_n d_R_hoursUntilAfloat_38 rfl ?_
    refine y_iconst (v := (J (-1))) d_R_hoursUntilAfloat_39 rfl ?_
    refine y_icmp_ne (tgt := 84) d_R_hoursUntilAfloat_40 (by decide) ?_ ?_
    · exact y_wk (loc2 := [some (.ref f0_), none, some (.int f2_), some (.int v3_), none, none]) ⟨rfl, ⟨rfl, ⟨rfl, trivial⟩⟩⟩ (hK84 h v3_)
    · refine y_aload_n d_R_hoursUntilAfloat_43 rfl ?_
      refine y_iload d_R_hoursUntilAfloat_44 rfl ?_
      refine y_aload_n d_R_hoursUntilAfloat_46 rfl ?_
      refine y_getA d_R_hoursUntilAfloat_47 f_R_9 (fun v10 => ?_)
      refine y_iconst (v := (J 0)) d_R_hoursUntilAfloat_50 rfl ?_
      refine y_iald d_R_hoursUntilAfloat_51 (fun v11 => ?_)
      refine y_iload d_R_hoursUntilAfloat_52 rfl ?_
      refine y_iadd (v := (v11 + v5_)) d_R_hoursUntilAfloat_54 rfl ?_
      refine y_gO (fun fs1 g1 => y_cI (c_vi (rest := []) d_R_hoursUntilAfloat_55 k_R_levelThen s_R_173 (Or.inl ⟨_, _, _, g1, rfl, rfl⟩) rfl rfl (Nat.le_of_ble_eq_true rfl) (Nat.le_trans (Nat.le_of_ble_eq_true rfl : 2 + 1 ≤ 5) hD) (S_R_levelThen hfl (Nat.le_refl _) h f0_ v4_ (v11 + v5_))) (fun v13 h12 => ?_))
      refine y_istore (loc2 := [some (.ref f0_), none, some (.int f2_), some (.int v3_), some (.int v13), some (.int v5_)]) d_R_hoursUntilAfloat_58 (Nat.le_of_ble_eq_true rfl) rfl rfl ?_
      refine y_iload d_R_hoursUntilAfloat_60 rfl ?_
      refine y_aload_n d_R_hoursUntilAfloat_62 rfl ?_
      refine y_iload_n d_R_hoursUntilAfloat_63 rfl ?_
      refine y_iconst (v := (J 2)) d_R_hoursUntilAfloat_64 rfl ?_
      refine y_gO (fun fs1 g1 => y_cI (c_vi (rest := [.int v13]) d_R_hoursUntilAfloat_65 k_R_of s_R_67 (Or.inl ⟨_, _, _, g1, rfl, rfl⟩) rfl rfl (Nat.le_of_ble_eq_true rfl) (Nat.le_trans (Nat.le_of_ble_eq_true rfl : 2 + 1 ≤ 5) hD) (S_R_of hfl (Nat.le_refl _) h12 f0_ f2_ (J 2))) (fun v15 h14 => ?_))
      refine y_jn (C := fun (j9 : mH → Int32 → Option (Int32 × mH)) => ∀ (h17 : mH) (s18 : Int32), mY l Θ d M_R_hoursUntilAfloat 77 [some (.ref f0_), none, some (.int f2_), none, some (.int v13), some (.int v5_)] [.int s18] h17 (tR vI) (j9 h17 s18)) (fun h17 s18 => ?_) (fun j16 Hj16 => ?_)
      · refine y_istore_n (loc2 := [some (.ref f0_), none, some (.int f2_), some (.int s18), some (.int v13), some (.int v5_)]) d_R_hoursUntilAfloat_77 (Nat.le_of_ble_eq_true rfl) rfl rfl ?_
        refine y_iinc (v := (v5_ + (J 1))) (loc2 := [some (.ref f0_), none, some (.int f2_), some (.int s18), some (.int v13), some (.int (v5_ + (J 1)))]) d_R_hoursUntilAfloat_78 rfl rfl (Nat.le_of_ble_eq_true rfl) rfl rfl ?_
        refine y_goto (tgt := 31) d_R_hoursUntilAfloat_81 (by decide) ?_
        exact ih h17 s18 v13 (v5_ + (J 1))
      · refine y_icmp_lt (tgt := 76) d_R_hoursUntilAfloat_68 (by decide) ?_ ?_
        · refine y_iconst (v := (J (-1))) d_R_hoursUntilAfloat_76 rfl ?_
          exact y_wk (loc2 := [some (.ref f0_), none, some (.int f2_), none, some (.int v13), some (.int v5_)]) ⟨rfl, ⟨rfl, ⟨rfl, ⟨rfl, trivial⟩⟩⟩⟩ (Hj16 h14 (J (-1)))
        · refine y_iload d_R_hoursUntilAfloat_71 rfl ?_
          refine y_goto (tgt := 77) d_R_hoursUntilAfloat_73 (by decide) ?_
          exact y_wk (loc2 := [some (.ref f0_), none, some (.int f2_), none, some (.int v13), some (.int v5_)]) ⟨rfl, ⟨rfl, ⟨rfl, ⟨rfl, trivial⟩⟩⟩⟩ (Hj16 h14 v5_)
theorem S_R_hoursUntilAfloat_31 (hfl : HF l Θ) (hD : 5 ≤ d) {K84 : mH → Int32 → Option (Int32 × mH)} {f0_ : Nat} {f2_ : Int32}  (hK84 : ∀ (h : mH) (v3_ : Int32), mY l Θ d M_R_hoursUntilAfloat 84 [some (.ref f0_), none, some (.int f2_), some (.int v3_), none, none] [] h (tR vI) (K84 h v3_)) : ∀ (n : Nat) (h : mH) (v3_ : Int32) (v4_ : Int32) (v5_ : Int32), mY l Θ d M_R_hoursUntilAfloat 31 [some (.ref f0_), none, some (.int f2_), some (.int v3_), some (.int v4_), some (.int v5_)] [] h (tR vI) (P_R_hoursUntilAfloat_31 Θ N K84 f0_ f2_ n h v3_ v4_ v5_) :=
  fun n => lp_all (C := fun (rc : mH → Int32 → Int32 → Int32 → Option (Int32 × mH)) => ∀ (h : mH) (v3_ : Int32) (v4_ : Int32) (v5_ : Int32), mY l Θ d M_R_hoursUntilAfloat 31 [some (.ref f0_), none, some (.int f2_), some (.int v3_), some (.int v4_), some (.int v5_)] [] h (tR vI) (rc h v3_ v4_ v5_)) (fun _ _ _ _ => y_none) (fun rc ih => SB_R_hoursUntilAfloat_31 hfl hD hK84 rc ih) n
theorem S_R_hoursUntilAfloat (hfl : HF l Θ) (hD : 5 ≤ d) (h : mH) (a0 : Nat) (a1 : Int32) : mMs l Θ d M_R_hoursUntilAfloat [.ref a0, .int a1] h (tR vI) (P_R_hoursUntilAfloat Θ N h a0 a1) := by
  refine mMs.of hfl (by decide +kernel) rfl (Nat.le_of_ble_eq_true rfl) (loc := [some (.ref a0), some (.int a1), none, none, none, none]) rfl ?_
  unfold P_R_hoursUntilAfloat
  refine y_aload_n d_R_hoursUntilAfloat_0 rfl ?_
  refine y_iload_n d_R_hoursUntilAfloat_1 rfl ?_
  refine y_gO (fun fs1 g1 => y_cI (c_vi (rest := []) d_R_hoursUntilAfloat_2 k_R_find s_R_104 (Or.inl ⟨_, _, _, g1, rfl, rfl⟩) rfl rfl (Nat.le_of_ble_eq_true rfl) (Nat.le_trans (Nat.le_of_ble_eq_true rfl : 3 + 1 ≤ 5) hD) (S_R_find hfl (Nat.le_refl _) h a0 a1)) (fun v2 h1 => ?_))
  refine y_istore_n (loc2 := [some (.ref a0), some (.int a1), some (.int v2), none, none, none]) d_R_hoursUntilAfloat_5 (Nat.le_of_ble_eq_true rfl) rfl rfl ?_
  refine y_aload_n d_R_hoursUntilAfloat_6 rfl ?_
  refine y_iload_n d_R_hoursUntilAfloat_7 rfl ?_
  refine y_gO (fun fs1 g1 => y_cI (c_vi (rest := []) d_R_hoursUntilAfloat_8 k_R_floats s_R_128 (Or.inl ⟨_, _, _, g1, rfl, rfl⟩) rfl rfl (Nat.le_of_ble_eq_true rfl) (Nat.le_trans (Nat.le_of_ble_eq_true rfl : 4 + 1 ≤ 5) hD) (S_R_floats hfl (Nat.le_refl _) h1 a0 v2)) (fun v4 h3 => ?_))
  refine y_jn (C := fun (j9 : mH → Int32 → Option (Int32 × mH)) => ∀ (h6 : mH) (s7 : Int32), mY l Θ d M_R_hoursUntilAfloat 19 [some (.ref a0), none, some (.int v2), none, none, none] [.int s7] h6 (tR vI) (j9 h6 s7)) (fun h6 s7 => ?_) (fun j5 Hj5 => ?_)
  · refine y_istore_n (loc2 := [some (.ref a0), none, some (.int v2), some (.int s7), none, none]) d_R_hoursUntilAfloat_19 (Nat.le_of_ble_eq_true rfl) rfl rfl ?_
    refine y_aload_n d_R_hoursUntilAfloat_20 rfl ?_
    refine y_getA d_R_hoursUntilAfloat_21 f_R_9 (fun v8 => ?_)
    refine y_iconst (v := (J 1)) d_R_hoursUntilAfloat_24 rfl ?_
    refine y_iald d_R_hoursUntilAfloat_25 (fun v9 => ?_)
    refine y_istore (loc2 := [some (.ref a0), none, some (.int v2), some (.int s7), some (.int v9), none]) d_R_hoursUntilAfloat_26 (Nat.le_of_ble_eq_true rfl) rfl rfl ?_
    refine y_iconst (v := (J 1)) d_R_hoursUntilAfloat_28 rfl ?_
    refine y_istore (loc2 := [some (.ref a0), none, some (.int v2), some (.int s7), some (.int v9), some (.int (J 1))]) d_R_hoursUntilAfloat_29 (Nat.le_of_ble_eq_true rfl) rfl rfl ?_
    refine S_R_hoursUntilAfloat_31 hfl hD (fun h19 u20 => ?_) N h6 s7 v9 (J 1)
    refine y_aload_n d_R_hoursUntilAfloat_84 rfl ?_
    refine y_iload_n d_R_hoursUntilAfloat_85 rfl ?_
    refine y_iconst (v := (J (-1))) d_R_hoursUntilAfloat_86 rfl ?_
    refine y_jn (C := fun (j9 : mH → Int32 → Option (Int32 × mH)) => ∀ (h22 : mH) (s23 : Int32), mY l Θ d M_R_hoursUntilAfloat 95 [none, none, none, some (.int u20), none, none] [.int s23, .ref a0] h22 (tR vI) (j9 h22 s23)) (fun h22 s23 => ?_) (fun j21 Hj21 => ?_)
    · refine y_iload_n d_R_hoursUntilAfloat_95 rfl ?_
      refine y_iconst (v := (J (-1))) d_R_hoursUntilAfloat_96 rfl ?_
      refine y_jn (C := fun (j9 : mH → Int32 → Option (Int32 × mH)) => ∀ (h25 : mH) (s26 : Int32), mY l Θ d M_R_hoursUntilAfloat 105 [none, none, none, some (.int u20), none, none] [.int s26, .int s23, .ref a0] h25 (tR vI) (j9 h25 s26)) (fun h25 s26 => ?_) (fun j24 Hj24 => ?_)
      · refine y_iconst (v := (J 1)) d_R_hoursUntilAfloat_105 rfl ?_
        refine y_iconst (v := (J 1)) d_R_hoursUntilAfloat_106 rfl ?_
        refine y_gO (fun fs1 g1 => y_cI (c_vi (rest := []) d_R_hoursUntilAfloat_107 k_R_holds s_R_45 (Or.inl ⟨_, _, _, g1, rfl, rfl⟩) rfl rfl (Nat.le_of_ble_eq_true rfl) (Nat.le_trans (Nat.le_of_ble_eq_true rfl : 1 + 1 ≤ 5) hD) (S_R_holds hfl (Nat.le_refl _) h25 a0 s23 s26 (J 1) (J 1))) (fun v28 h27 => ?_))
        refine y_if_eq (tgt := 117) d_R_hoursUntilAfloat_110 (by decide) ?_ ?_
        · refine y_iconst (v := (J 0)) d_R_hoursUntilAfloat_117 rfl ?_
          exact y_retI d_R_hoursUntilAfloat_118 rfl rfl
        · refine y_iload_n d_R_hoursUntilAfloat_113 rfl ?_
          refine y_goto (tgt := 118) d_R_hoursUntilAfloat_114 (by decide) ?_
          exact y_retI d_R_hoursUntilAfloat_118 rfl rfl
      · refine y_icmp_eq (tgt := 104) d_R_hoursUntilAfloat_97 (by decide) ?_ ?_
        · refine y_iconst (v := (J 0)) d_R_hoursUntilAfloat_104 rfl ?_
          exact Hj24 h22 (J 0)
        · refine y_iconst (v := (J 1)) d_R_hoursUntilAfloat_100 rfl ?_
          refine y_goto (tgt := 105) d_R_hoursUntilAfloat_101 (by decide) ?_
          exact Hj24 h22 (J 1)
    · refine y_icmp_eq (tgt := 94) d_R_hoursUntilAfloat_87 (by decide) ?_ ?_
      · refine y_iconst (v := (J 0)) d_R_hoursUntilAfloat_94 rfl ?_
        exact y_wk (loc2 := [none, none, none, some (.int u20), none, none]) ⟨rfl, trivial⟩ (Hj21 h19 (J 0))
      · refine y_iconst (v := (J 1)) d_R_hoursUntilAfloat_90 rfl ?_
        refine y_goto (tgt := 95) d_R_hoursUntilAfloat_91 (by decide) ?_
        exact y_wk (loc2 := [none, none, none, some (.int u20), none, none]) ⟨rfl, trivial⟩ (Hj21 h19 (J 1))
  · refine y_if_eq (tgt := 18) d_R_hoursUntilAfloat_11 (by decide) ?_ ?_
    · refine y_iconst (v := (J (-1))) d_R_hoursUntilAfloat_18 rfl ?_
      exact y_wk (loc2 := [some (.ref a0), none, some (.int v2), none, none, none]) ⟨rfl, ⟨rfl, trivial⟩⟩ (Hj5 h3 (J (-1)))
    · refine y_iconst (v := (J 0)) d_R_hoursUntilAfloat_14 rfl ?_
      refine y_goto (tgt := 19) d_R_hoursUntilAfloat_15 (by decide) ?_
      exact y_wk (loc2 := [some (.ref a0), none, some (.int v2), none, none, none]) ⟨rfl, ⟨rfl, trivial⟩⟩ (Hj5 h3 (J 0))
noncomputable def P_R_hasBlock (Θ : mW) (N : Nat) (h : mH) (a0 : Nat) (a1 : Int32) : Option (Int32 × mH) :=
  (bc (P_R_isMetre Θ N h a1) (fun v2 h1 => (gO Θ h1 9 a0 (bc (P_R_goes Θ N h1 a0 v2) (fun v4 h3 => (if v4 = 0 then (some ((J 0), h3)) else (gO Θ h3 9 a0 (bc (P_R_isBlock Θ N h3 a0 a1) (fun v6 h5 => (if v6 = 0 then (some ((J 0), h5)) else (some ((J 1), h5))))))))))))
theorem S_R_hasBlock (hfl : HF l Θ) (hD : 4 ≤ d) (h : mH) (a0 : Nat) (a1 : Int32) : mMs l Θ d M_R_hasBlock [.ref a0, .int a1] h (tR vI) (P_R_hasBlock Θ N h a0 a1) := by
  refine mMs.of hfl (by decide +kernel) rfl (Nat.le_of_ble_eq_true rfl) (loc := [some (.ref a0), some (.int a1)]) rfl ?_
  unfold P_R_hasBlock
  refine y_aload_n d_R_hasBlock_0 rfl ?_
  refine y_iload_n d_R_hasBlock_1 rfl ?_
  refine y_cI (c_st (rest := [.ref a0]) d_R_hasBlock_2 k_R_isMetre s_R_91 rfl rfl (Nat.le_of_ble_eq_true rfl) (Nat.le_trans (Nat.le_of_ble_eq_true rfl : 2 + 1 ≤ 4) hD) (S_R_isMetre hfl (Nat.le_refl _) h a1)) (fun v2 h1 => ?_)
  refine y_gO (fun fs1 g1 => y_cI (c_vi (rest := []) d_R_hasBlock_5 k_R_goes s_R_59 (Or.inl ⟨_, _, _, g1, rfl, rfl⟩) rfl rfl (Nat.le_of_ble_eq_true rfl) (Nat.le_trans (Nat.le_of_ble_eq_true rfl : 2 + 1 ≤ 4) hD) (S_R_goes hfl (Nat.le_refl _) h1 a0 v2)) (fun v4 h3 => ?_))
  refine y_if_eq (tgt := 23) d_R_hasBlock_8 (by decide) ?_ ?_
  · refine y_iconst (v := (J 0)) d_R_hasBlock_23 rfl ?_
    exact y_retI d_R_hasBlock_24 rfl (by decide +kernel)
  · refine y_aload_n d_R_hasBlock_11 rfl ?_
    refine y_iload_n d_R_hasBlock_12 rfl ?_
    refine y_gO (fun fs1 g1 => y_cI (c_vi (rest := []) d_R_hasBlock_13 k_R_isBlock s_R_155 (Or.inl ⟨_, _, _, g1, rfl, rfl⟩) rfl rfl (Nat.le_of_ble_eq_true rfl) (Nat.le_trans (Nat.le_of_ble_eq_true rfl : 3 + 1 ≤ 4) hD) (S_R_isBlock hfl (Nat.le_refl _) h3 a0 a1)) (fun v6 h5 => ?_))
    refine y_if_eq (tgt := 23) d_R_hasBlock_16 (by decide) ?_ ?_
    · refine y_iconst (v := (J 0)) d_R_hasBlock_23 rfl ?_
      exact y_retI d_R_hasBlock_24 rfl (by decide +kernel)
    · refine y_iconst (v := (J 1)) d_R_hasBlock_19 rfl ?_
      refine y_goto (tgt := 24) d_R_hasBlock_20 (by decide) ?_
      exact y_retI d_R_hasBlock_24 rfl (by decide +kernel)
noncomputable def P_R_asksBeneath (Θ : mW) (N : Nat) (h : mH) (a0 : Nat) (a1 : Int32) : Option (Int32 × mH) :=
  (gO Θ h 9 a0 (bc (P_R_find Θ N h a0 a1) (fun v2 h1 => (jn (fun (h4 : mH) (s5 : Int32) => (gO Θ h4 9 a0 (bc (P_R_goes Θ N h4 a0 s5) (fun v7 h6 => (if v7 = 0 then (some ((J 0), h6)) else (gO Θ h6 9 a0 (bc (P_R_beneath Θ N h6 a0 v2) (fun v9 h8 => (some (v9, h8)))))))))) (fun j3 => (if v2 = (J (-1)) then (j3 h1 (J 0)) else (j3 h1 (J 1))))))))
theorem S_R_asksBeneath (hfl : HF l Θ) (hD : 6 ≤ d) (h : mH) (a0 : Nat) (a1 : Int32) : mMs l Θ d M_R_asksBeneath [.ref a0, .int a1] h (tR vI) (P_R_asksBeneath Θ N h a0 a1) := by
  refine mMs.of hfl (by decide +kernel) rfl (Nat.le_of_ble_eq_true rfl) (loc := [some (.ref a0), some (.int a1), none]) rfl ?_
  unfold P_R_asksBeneath
  refine y_aload_n d_R_asksBeneath_0 rfl ?_
  refine y_iload_n d_R_asksBeneath_1 rfl ?_
  refine y_gO (fun fs1 g1 => y_cI (c_vi (rest := []) d_R_asksBeneath_2 k_R_find s_R_104 (Or.inl ⟨_, _, _, g1, rfl, rfl⟩) rfl rfl (Nat.le_of_ble_eq_true rfl) (Nat.le_trans (Nat.le_of_ble_eq_true rfl : 3 + 1 ≤ 6) hD) (S_R_find hfl (Nat.le_refl _) h a0 a1)) (fun v2 h1 => ?_))
  refine y_istore_n (loc2 := [some (.ref a0), some (.int a1), some (.int v2)]) d_R_asksBeneath_5 (Nat.le_of_ble_eq_true rfl) rfl rfl ?_
  refine y_aload_n d_R_asksBeneath_6 rfl ?_
  refine y_iload_n d_R_asksBeneath_7 rfl ?_
  refine y_iconst (v := (J (-1))) d_R_asksBeneath_8 rfl ?_
  refine y_jn (C := fun (j9 : mH → Int32 → Option (Int32 × mH)) => ∀ (h4 : mH) (s5 : Int32), mY l Θ d M_R_asksBeneath 17 [some (.ref a0), none, some (.int v2)] [.int s5, .ref a0] h4 (tR vI) (j9 h4 s5)) (fun h4 s5 => ?_) (fun j3 Hj3 => ?_)
  · refine y_gO (fun fs1 g1 => y_cI (c_vi (rest := []) d_R_asksBeneath_17 k_R_goes s_R_59 (Or.inl ⟨_, _, _, g1, rfl, rfl⟩) rfl rfl (Nat.le_of_ble_eq_true rfl) (Nat.le_trans (Nat.le_of_ble_eq_true rfl : 2 + 1 ≤ 6) hD) (S_R_goes hfl (Nat.le_refl _) h4 a0 s5)) (fun v7 h6 => ?_))
    refine y_if_eq (tgt := 31) d_R_asksBeneath_20 (by decide) ?_ ?_
    · refine y_iconst (v := (J 0)) d_R_asksBeneath_31 rfl ?_
      exact y_retI d_R_asksBeneath_32 rfl rfl
    · refine y_aload_n d_R_asksBeneath_23 rfl ?_
      refine y_iload_n d_R_asksBeneath_24 rfl ?_
      refine y_gO (fun fs1 g1 => y_cI (c_vi (rest := []) d_R_asksBeneath_25 k_R_beneath s_R_167 (Or.inl ⟨_, _, _, g1, rfl, rfl⟩) rfl rfl (Nat.le_of_ble_eq_true rfl) (Nat.le_trans (Nat.le_of_ble_eq_true rfl : 5 + 1 ≤ 6) hD) (S_R_beneath hfl (Nat.le_refl _) h6 a0 v2)) (fun v9 h8 => ?_))
      refine y_goto (tgt := 32) d_R_asksBeneath_28 (by decide) ?_
      exact y_retI d_R_asksBeneath_32 rfl rfl
  · refine y_icmp_eq (tgt := 16) d_R_asksBeneath_9 (by decide) ?_ ?_
    · refine y_iconst (v := (J 0)) d_R_asksBeneath_16 rfl ?_
      exact y_wk (loc2 := [some (.ref a0), none, some (.int v2)]) ⟨rfl, ⟨rfl, trivial⟩⟩ (Hj3 h1 (J 0))
    · refine y_iconst (v := (J 1)) d_R_asksBeneath_12 rfl ?_
      refine y_goto (tgt := 17) d_R_asksBeneath_13 (by decide) ?_
      exact y_wk (loc2 := [some (.ref a0), none, some (.int v2)]) ⟨rfl, ⟨rfl, trivial⟩⟩ (Hj3 h1 (J 1))
noncomputable def P_R_blocksBeneath (Θ : mW) (N : Nat) (h : mH) (a0 : Nat) (a1 : Int32) : Option (Int32 × mH) :=
  (gO Θ h 9 a0 (bc (P_R_asksBeneath Θ N h a0 a1) (fun v2 h1 => (some (v2, h1)))))
theorem S_R_blocksBeneath (hfl : HF l Θ) (hD : 7 ≤ d) (h : mH) (a0 : Nat) (a1 : Int32) : mMs l Θ d M_R_blocksBeneath [.ref a0, .int a1] h (tR vI) (P_R_blocksBeneath Θ N h a0 a1) := by
  refine mMs.of hfl (by decide +kernel) rfl (Nat.le_of_ble_eq_true rfl) (loc := [some (.ref a0), some (.int a1)]) rfl ?_
  unfold P_R_blocksBeneath
  refine y_aload_n d_R_blocksBeneath_0 rfl ?_
  refine y_iload_n d_R_blocksBeneath_1 rfl ?_
  refine y_gO (fun fs1 g1 => y_cI (c_vi (rest := []) d_R_blocksBeneath_2 k_R_asksBeneath s_R_188 (Or.inl ⟨_, _, _, g1, rfl, rfl⟩) rfl rfl (Nat.le_of_ble_eq_true rfl) (Nat.le_trans (Nat.le_of_ble_eq_true rfl : 6 + 1 ≤ 7) hD) (S_R_asksBeneath hfl (Nat.le_refl _) h a0 a1)) (fun v2 h1 => ?_))
  exact y_retI d_R_blocksBeneath_5 rfl rfl
noncomputable def P_R_blocksBeneathByBlocks (Θ : mW) (N : Nat) (h : mH) (a0 : Nat) (a1 : Int32) : Option (Int32 × mH) :=
  (gO Θ h 9 a0 (bc (P_R_asksBeneath Θ N h a0 a1) (fun v2 h1 => (some (v2, h1)))))
theorem S_R_blocksBeneathByBlocks (hfl : HF l Θ) (hD : 7 ≤ d) (h : mH) (a0 : Nat) (a1 : Int32) : mMs l Θ d M_R_blocksBeneathByBlocks [.ref a0, .int a1] h (tR vI) (P_R_blocksBeneathByBlocks Θ N h a0 a1) := by
  refine mMs.of hfl (by decide +kernel) rfl (Nat.le_of_ble_eq_true rfl) (loc := [some (.ref a0), some (.int a1)]) rfl ?_
  unfold P_R_blocksBeneathByBlocks
  refine y_aload_n d_R_blocksBeneathByBlocks_0 rfl ?_
  refine y_iload_n d_R_blocksBeneathByBlocks_1 rfl ?_
  refine y_gO (fun fs1 g1 => y_cI (c_vi (rest := []) d_R_blocksBeneathByBlocks_2 k_R_asksBeneath s_R_188 (Or.inl ⟨_, _, _, g1, rfl, rfl⟩) rfl rfl (Nat.le_of_ble_eq_true rfl) (Nat.le_trans (Nat.le_of_ble_eq_true rfl : 6 + 1 ≤ 7) hD) (S_R_asksBeneath hfl (Nat.le_refl _) h a0 a1)) (fun v2 h1 => ?_))
  exact y_retI d_R_blocksBeneathByBlocks_5 rfl rfl
noncomputable def P_R_shipAtPosition (Θ : mW) (N : Nat) (h : mH) (a0 : Nat) (a1 : Int32) : Option (Int32 × mH) :=
  (gO Θ h 9 a0 (bc (P_R_at Θ N h a0 a1) (fun v2 h1 => (bc (P_R_isMetre Θ N h1 a1) (fun v4 h3 => (jn (fun (h6 : mH) (s7 : Int32) => (gO Θ h6 9 a0 (bc (P_R_holds Θ N h6 a0 v4 s7 (J 1) (J 1)) (fun v9 h8 => (if v9 = 0 then (some ((J 0), h8)) else (gO Θ h8 9 a0 (bc (P_R_of Θ N h8 a0 v2 (J 0)) (fun v11 h10 => (some (v11, h10)))))))))) (fun j5 => (if v2 = (J (-1)) then (j5 h3 (J 0)) else (j5 h3 (J 1))))))))))
theorem S_R_shipAtPosition (hfl : HF l Θ) (hD : 5 ≤ d) (h : mH) (a0 : Nat) (a1 : Int32) : mMs l Θ d M_R_shipAtPosition [.ref a0, .int a1] h (tR vI) (P_R_shipAtPosition Θ N h a0 a1) := by
  refine mMs.of hfl (by decide +kernel) rfl (Nat.le_of_ble_eq_true rfl) (loc := [some (.ref a0), some (.int a1), none]) rfl ?_
  unfold P_R_shipAtPosition
  refine y_aload_n d_R_shipAtPosition_0 rfl ?_
  refine y_iload_n d_R_shipAtPosition_1 rfl ?_
  refine y_gO (fun fs1 g1 => y_cI (c_vi (rest := []) d_R_shipAtPosition_2 k_R_at s_R_87 (Or.inl ⟨_, _, _, g1, rfl, rfl⟩) rfl rfl (Nat.le_of_ble_eq_true rfl) (Nat.le_trans (Nat.le_of_ble_eq_true rfl : 4 + 1 ≤ 5) hD) (S_R_at hfl (Nat.le_refl _) h a0 a1)) (fun v2 h1 => ?_))
  refine y_istore_n (loc2 := [some (.ref a0), some (.int a1), some (.int v2)]) d_R_shipAtPosition_5 (Nat.le_of_ble_eq_true rfl) rfl rfl ?_
  refine y_aload_n d_R_shipAtPosition_6 rfl ?_
  refine y_iload_n d_R_shipAtPosition_7 rfl ?_
  refine y_cI (c_st (rest := [.ref a0]) d_R_shipAtPosition_8 k_R_isMetre s_R_91 rfl rfl (Nat.le_of_ble_eq_true rfl) (Nat.le_trans (Nat.le_of_ble_eq_true rfl : 2 + 1 ≤ 5) hD) (S_R_isMetre hfl (Nat.le_refl _) h1 a1)) (fun v4 h3 => ?_)
  refine y_iload_n d_R_shipAtPosition_11 rfl ?_
  refine y_iconst (v := (J (-1))) d_R_shipAtPosition_12 rfl ?_
  refine y_jn (C := fun (j9 : mH → Int32 → Option (Int32 × mH)) => ∀ (h6 : mH) (s7 : Int32), mY l Θ d M_R_shipAtPosition 21 [some (.ref a0), none, some (.int v2)] [.int s7, .int v4, .ref a0] h6 (tR vI) (j9 h6 s7)) (fun h6 s7 => ?_) (fun j5 Hj5 => ?_)
  · refine y_iconst (v := (J 1)) d_R_shipAtPosition_21 rfl ?_
    refine y_iconst (v := (J 1)) d_R_shipAtPosition_22 rfl ?_
    refine y_gO (fun fs1 g1 => y_cI (c_vi (rest := []) d_R_shipAtPosition_23 k_R_holds s_R_45 (Or.inl ⟨_, _, _, g1, rfl, rfl⟩) rfl rfl (Nat.le_of_ble_eq_true rfl) (Nat.le_trans (Nat.le_of_ble_eq_true rfl : 1 + 1 ≤ 5) hD) (S_R_holds hfl (Nat.le_refl _) h6 a0 v4 s7 (J 1) (J 1))) (fun v9 h8 => ?_))
    refine y_if_eq (tgt := 38) d_R_shipAtPosition_26 (by decide) ?_ ?_
    · refine y_iconst (v := (J 0)) d_R_shipAtPosition_38 rfl ?_
      exact y_retI d_R_shipAtPosition_39 rfl rfl
    · refine y_aload_n d_R_shipAtPosition_29 rfl ?_
      refine y_iload_n d_R_shipAtPosition_30 rfl ?_
      refine y_iconst (v := (J 0)) d_R_shipAtPosition_31 rfl ?_
      refine y_gO (fun fs1 g1 => y_cI (c_vi (rest := []) d_R_shipAtPosition_32 k_R_of s_R_67 (Or.inl ⟨_, _, _, g1, rfl, rfl⟩) rfl rfl (Nat.le_of_ble_eq_true rfl) (Nat.le_trans (Nat.le_of_ble_eq_true rfl : 2 + 1 ≤ 5) hD) (S_R_of hfl (Nat.le_refl _) h8 a0 v2 (J 0))) (fun v11 h10 => ?_))
      refine y_goto (tgt := 39) d_R_shipAtPosition_35 (by decide) ?_
      exact y_retI d_R_shipAtPosition_39 rfl rfl
  · refine y_icmp_eq (tgt := 20) d_R_shipAtPosition_13 (by decide) ?_ ?_
    · refine y_iconst (v := (J 0)) d_R_shipAtPosition_20 rfl ?_
      exact y_wk (loc2 := [some (.ref a0), none, some (.int v2)]) ⟨rfl, ⟨rfl, trivial⟩⟩ (Hj5 h3 (J 0))
    · refine y_iconst (v := (J 1)) d_R_shipAtPosition_16 rfl ?_
      refine y_goto (tgt := 21) d_R_shipAtPosition_17 (by decide) ?_
      exact y_wk (loc2 := [some (.ref a0), none, some (.int v2)]) ⟨rfl, ⟨rfl, trivial⟩⟩ (Hj5 h3 (J 1))
noncomputable def B_R_gap_13 (Θ : mW) (N : Nat) (K54 : mH → Int32 → Option (Int32 × mH)) (f0_ : Nat) (f1_ : Int32) (f2_ : Int32) (rc : mH → Int32 → Int32 → Option (Int32 × mH)) (h : mH) (v3_ : Int32) (v4_ : Int32) : Option (Int32 × mH) :=
  (if f2_ = 0 then (K54 h v3_) else (if (J 60) < (v4_ + f1_) then (K54 h v3_) else (if v3_ = (J (-1)) then (gO Θ h 9 f0_ (bc (P_R_isFree Θ N h f0_ v4_ f1_) (fun v4 h3 => (jn (fun (h6 : mH) (s7 : Int32) => (rc h6 s7 (v4_ + (J 1)))) (fun j5 => (if v4 = 0 then (j5 h3 (J (-1))) else (j5 h3 v4_))))))) else (K54 h v3_))))
noncomputable def P_R_gap_13 (Θ : mW) (N : Nat) (K54 : mH → Int32 → Option (Int32 × mH)) (f0_ : Nat) (f1_ : Int32) (f2_ : Int32) : Nat → mH → Int32 → Int32 → Option (Int32 × mH) :=
  lp (fun _ _ _ => none) (B_R_gap_13 Θ N K54 f0_ f1_ f2_)
noncomputable def P_R_gap (Θ : mW) (N : Nat) (h : mH) (a0 : Nat) (a1 : Int32) : Option (Int32 × mH) :=
  (bc (P_R_isIn Θ N h a1 (J 1) (J 60)) (fun v2 h1 => (P_R_gap_13 Θ N (fun h8 u9 => (jn (fun (h11 : mH) (s12 : Int32) => (gO Θ h11 9 a0 (bc (P_R_holds Θ N h11 a0 v2 s12 (J 1) (J 1)) (fun v14 h13 => (if v14 = 0 then (some ((J 0), h13)) else (some (u9, h13))))))) (fun j10 => (if u9 = (J (-1)) then (j10 h8 (J 0)) else (j10 h8 (J 1)))))) a0 a1 v2 N h1 (J (-1)) (J 0))))
theorem SB_R_gap_13 (hfl : HF l Θ) (hD : 6 ≤ d) {K54 : mH → Int32 → Option (Int32 × mH)} {f0_ : Nat} {f1_ : Int32} {f2_ : Int32}  (hK54 : ∀ (h : mH) (v3_ : Int32), mY l Θ d M_R_gap 54 [some (.ref f0_), none, some (.int f2_), some (.int v3_), none] [] h (tR vI) (K54 h v3_)) (rc : mH → Int32 → Int32 → Option (Int32 × mH)) (ih : ∀ (h : mH) (v3_ : Int32) (v4_ : Int32), mY l Θ d M_R_gap 13 [some (.ref f0_), some (.int f1_), some (.int f2_), some (.int v3_), some (.int v4_)] [] h (tR vI) (rc h v3_ v4_)) : ∀ (h : mH) (v3_ : Int32) (v4_ : Int32), mY l Θ d M_R_gap 13 [some (.ref f0_), some (.int f1_), some (.int f2_), some (.int v3_), some (.int v4_)] [] h (tR vI) (B_R_gap_13 Θ N K54 f0_ f1_ f2_ rc h v3_ v4_) := by
  intro h v3_ v4_
  unfold B_R_gap_13
  refine y_iload_n d_R_gap_13 rfl ?_
  refine y_if_eq (tgt := 54) d_R_gap_14 (by decide) ?_ ?_
  · exact y_wk (loc2 := [some (.ref f0_), none, some (.int f2_), some (.int v3_), none]) ⟨rfl, ⟨rfl, ⟨rfl, trivial⟩⟩⟩ (hK54 h v3_)
  · refine y_iload d_R_gap_17 rfl ?_
    refine y_iload_n d_R_gap_19 rfl ?_
    refine y_iadd (v := (v4_ + f1_)) d_R_gap_20 rfl ?_
    refine y_bipush (v := (J 60)) d_R_gap_21 (by decide +kernel) ?_
    refine y_icmp_gt (tgt := 54) d_R_gap_23 (by decide) ?_ ?_
    · exact y_wk (loc2 := [some (.ref f0_), none, some (.int f2_), some (.int v3_), none]) ⟨rfl, ⟨rfl, ⟨rfl, trivial⟩⟩⟩ (hK54 h v3_)
    · refine y_iload_n d_R_gap_26 rfl ?_
      refine y_iconst (v := (J (-1))) d_R_gap_27 rfl ?_
      refine y_icmp_ne (tgt := 54) d_R_gap_28 (by decide) ?_ ?_
      · exact y_wk (loc2 := [some (.ref f0_), none, some (.int f2_), some (.int v3_), none]) ⟨rfl, ⟨rfl, ⟨rfl, trivial⟩⟩⟩ (hK54 h v3_)
      · refine y_aload_n d_R_gap_31 rfl ?_
        refine y_iload d_R_gap_32 rfl ?_
        refine y_iload_n d_R_gap_34 rfl ?_
        refine y_gO (fun fs1 g1 => y_cI (c_vi (rest := []) d_R_gap_35 k_R_isFree s_R_113 (Or.inl ⟨_, _, _, g1, rfl, rfl⟩) rfl rfl (Nat.le_of_ble_eq_true rfl) (Nat.le_trans (Nat.le_of_ble_eq_true rfl : 5 + 1 ≤ 6) hD) (S_R_isFree hfl (Nat.le_refl _) h f0_ v4_ f1_)) (fun v4 h3 => ?_))
        refine y_jn (C := fun (j9 : mH → Int32 → Option (Int32 × mH)) => ∀ (h6 : mH) (s7 : Int32), mY l Θ d M_R_gap 47 [some (.ref f0_), some (.int f1_), some (.int f2_), none, some (.int v4_)] [.int s7] h6 (tR vI) (j9 h6 s7)) (fun h6 s7 => ?_) (fun j5 Hj5 => ?_)
        · refine y_istore_n (loc2 := [some (.ref f0_), some (.int f1_), some (.int f2_), some (.int s7), some (.int v4_)]) d_R_gap_47 (Nat.le_of_ble_eq_true rfl) rfl rfl ?_
          refine y_iinc (v := (v4_ + (J 1))) (loc2 := [some (.ref f0_), some (.int f1_), some (.int f2_), some (.int s7), some (.int (v4_ + (J 1)))]) d_R_gap_48 rfl rfl (Nat.le_of_ble_eq_true rfl) rfl rfl ?_
          refine y_goto (tgt := 13) d_R_gap_51 (by decide) ?_
          exact ih h6 s7 (v4_ + (J 1))
        · refine y_if_eq (tgt := 46) d_R_gap_38 (by decide) ?_ ?_
          · refine y_iconst (v := (J (-1))) d_R_gap_46 rfl ?_
            exact y_wk (loc2 := [some (.ref f0_), some (.int f1_), some (.int f2_), none, some (.int v4_)]) ⟨rfl, ⟨rfl, ⟨rfl, ⟨rfl, trivial⟩⟩⟩⟩ (Hj5 h3 (J (-1)))
          · refine y_iload d_R_gap_41 rfl ?_
            refine y_goto (tgt := 47) d_R_gap_43 (by decide) ?_
            exact y_wk (loc2 := [some (.ref f0_), some (.int f1_), some (.int f2_), none, some (.int v4_)]) ⟨rfl, ⟨rfl, ⟨rfl, ⟨rfl, trivial⟩⟩⟩⟩ (Hj5 h3 v4_)
theorem S_R_gap_13 (hfl : HF l Θ) (hD : 6 ≤ d) {K54 : mH → Int32 → Option (Int32 × mH)} {f0_ : Nat} {f1_ : Int32} {f2_ : Int32}  (hK54 : ∀ (h : mH) (v3_ : Int32), mY l Θ d M_R_gap 54 [some (.ref f0_), none, some (.int f2_), some (.int v3_), none] [] h (tR vI) (K54 h v3_)) : ∀ (n : Nat) (h : mH) (v3_ : Int32) (v4_ : Int32), mY l Θ d M_R_gap 13 [some (.ref f0_), some (.int f1_), some (.int f2_), some (.int v3_), some (.int v4_)] [] h (tR vI) (P_R_gap_13 Θ N K54 f0_ f1_ f2_ n h v3_ v4_) :=
  fun n => lp_all (C := fun (rc : mH → Int32 → Int32 → Option (Int32 × mH)) => ∀ (h : mH) (v3_ : Int32) (v4_ : Int32), mY l Θ d M_R_gap 13 [some (.ref f0_), some (.int f1_), some (.int f2_), some (.int v3_), some (.int v4_)] [] h (tR vI) (rc h v3_ v4_)) (fun _ _ _ => y_none) (fun rc ih => SB_R_gap_13 hfl hD hK54 rc ih) n
theorem S_R_gap (hfl : HF l Θ) (hD : 6 ≤ d) (h : mH) (a0 : Nat) (a1 : Int32) : mMs l Θ d M_R_gap [.ref a0, .int a1] h (tR vI) (P_R_gap Θ N h a0 a1) := by
  refine mMs.of hfl (by decide +kernel) rfl (Nat.le_of_ble_eq_true rfl) (loc := [some (.ref a0), some (.int a1), none, none, none]) rfl ?_
  unfold P_R_gap
  refine y_iload_n d_R_gap_0 rfl ?_
  refine y_iconst (v := (J 1)) d_R_gap_1 rfl ?_
  refine y_bipush (v := (J 60)) d_R_gap_2 (by decide +kernel) ?_
  refine y_cI (c_st (rest := []) d_R_gap_4 k_R_isIn s_R_83 rfl rfl (Nat.le_of_ble_eq_true rfl) (Nat.le_trans (Nat.le_of_ble_eq_true rfl : 1 + 1 ≤ 6) hD) (S_R_isIn hfl (Nat.le_refl _) h a1 (J 1) (J 60))) (fun v2 h1 => ?_)
  refine y_istore_n (loc2 := [some (.ref a0), some (.int a1), some (.int v2), none, none]) d_R_gap_7 (Nat.le_of_ble_eq_true rfl) rfl rfl ?_
  refine y_iconst (v := (J (-1))) d_R_gap_8 rfl ?_
  refine y_istore_n (loc2 := [some (.ref a0), some (.int a1), some (.int v2), some (.int (J (-1))), none]) d_R_gap_9 (Nat.le_of_ble_eq_true rfl) rfl rfl ?_
  refine y_iconst (v := (J 0)) d_R_gap_10 rfl ?_
  refine y_istore (loc2 := [some (.ref a0), some (.int a1), some (.int v2), some (.int (J (-1))), some (.int (J 0))]) d_R_gap_11 (Nat.le_of_ble_eq_true rfl) rfl rfl ?_
  refine S_R_gap_13 hfl hD (fun h8 u9 => ?_) N h1 (J (-1)) (J 0)
  refine y_aload_n d_R_gap_54 rfl ?_
  refine y_iload_n d_R_gap_55 rfl ?_
  refine y_iload_n d_R_gap_56 rfl ?_
  refine y_iconst (v := (J (-1))) d_R_gap_57 rfl ?_
  refine y_jn (C := fun (j9 : mH → Int32 → Option (Int32 × mH)) => ∀ (h11 : mH) (s12 : Int32), mY l Θ d M_R_gap 66 [none, none, none, some (.int u9), none] [.int s12, .int v2, .ref a0] h11 (tR vI) (j9 h11 s12)) (fun h11 s12 => ?_) (fun j10 Hj10 => ?_)
  · refine y_iconst (v := (J 1)) d_R_gap_66 rfl ?_
    refine y_iconst (v := (J 1)) d_R_gap_67 rfl ?_
    refine y_gO (fun fs1 g1 => y_cI (c_vi (rest := []) d_R_gap_68 k_R_holds s_R_45 (Or.inl ⟨_, _, _, g1, rfl, rfl⟩) rfl rfl (Nat.le_of_ble_eq_true rfl) (Nat.le_trans (Nat.le_of_ble_eq_true rfl : 1 + 1 ≤ 6) hD) (S_R_holds hfl (Nat.le_refl _) h11 a0 v2 s12 (J 1) (J 1))) (fun v14 h13 => ?_))
    refine y_if_eq (tgt := 78) d_R_gap_71 (by decide) ?_ ?_
    · refine y_iconst (v := (J 0)) d_R_gap_78 rfl ?_
      exact y_retI d_R_gap_79 rfl rfl
    · refine y_iload_n d_R_gap_74 rfl ?_
      refine y_goto (tgt := 79) d_R_gap_75 (by decide) ?_
      exact y_retI d_R_gap_79 rfl rfl
  · refine y_icmp_eq (tgt := 65) d_R_gap_58 (by decide) ?_ ?_
    · refine y_iconst (v := (J 0)) d_R_gap_65 rfl ?_
      exact y_wk (loc2 := [none, none, none, some (.int u9), none]) ⟨rfl, trivial⟩ (Hj10 h8 (J 0))
    · refine y_iconst (v := (J 1)) d_R_gap_61 rfl ?_
      refine y_goto (tgt := 66) d_R_gap_62 (by decide) ?_
      exact y_wk (loc2 := [none, none, none, some (.int u9), none]) ⟨rfl, trivial⟩ (Hj10 h8 (J 1))
noncomputable def P_R_firstGap (Θ : mW) (N : Nat) (h : mH) (a0 : Nat) (a1 : Int32) : Option (Int32 × mH) :=
  (gO Θ h 9 a0 (bc (P_R_gap Θ N h a0 a1) (fun v2 h1 => (some (v2, h1)))))
theorem S_R_firstGap (hfl : HF l Θ) (hD : 7 ≤ d) (h : mH) (a0 : Nat) (a1 : Int32) : mMs l Θ d M_R_firstGap [.ref a0, .int a1] h (tR vI) (P_R_firstGap Θ N h a0 a1) := by
  refine mMs.of hfl (by decide +kernel) rfl (Nat.le_of_ble_eq_true rfl) (loc := [some (.ref a0), some (.int a1)]) rfl ?_
  unfold P_R_firstGap
  refine y_aload_n d_R_firstGap_0 rfl ?_
  refine y_iload_n d_R_firstGap_1 rfl ?_
  refine y_gO (fun fs1 g1 => y_cI (c_vi (rest := []) d_R_firstGap_2 k_R_gap s_R_191 (Or.inl ⟨_, _, _, g1, rfl, rfl⟩) rfl rfl (Nat.le_of_ble_eq_true rfl) (Nat.le_trans (Nat.le_of_ble_eq_true rfl : 6 + 1 ≤ 7) hD) (S_R_gap hfl (Nat.le_refl _) h a0 a1)) (fun v2 h1 => ?_))
  exact y_retI d_R_firstGap_5 rfl rfl
noncomputable def P_R_firstGapByShips (Θ : mW) (N : Nat) (h : mH) (a0 : Nat) (a1 : Int32) : Option (Int32 × mH) :=
  (gO Θ h 9 a0 (bc (P_R_gap Θ N h a0 a1) (fun v2 h1 => (some (v2, h1)))))
theorem S_R_firstGapByShips (hfl : HF l Θ) (hD : 7 ≤ d) (h : mH) (a0 : Nat) (a1 : Int32) : mMs l Θ d M_R_firstGapByShips [.ref a0, .int a1] h (tR vI) (P_R_firstGapByShips Θ N h a0 a1) := by
  refine mMs.of hfl (by decide +kernel) rfl (Nat.le_of_ble_eq_true rfl) (loc := [some (.ref a0), some (.int a1)]) rfl ?_
  unfold P_R_firstGapByShips
  refine y_aload_n d_R_firstGapByShips_0 rfl ?_
  refine y_iload_n d_R_firstGapByShips_1 rfl ?_
  refine y_gO (fun fs1 g1 => y_cI (c_vi (rest := []) d_R_firstGapByShips_2 k_R_gap s_R_191 (Or.inl ⟨_, _, _, g1, rfl, rfl⟩) rfl rfl (Nat.le_of_ble_eq_true rfl) (Nat.le_trans (Nat.le_of_ble_eq_true rfl : 6 + 1 ≤ 7) hD) (S_R_gap hfl (Nat.le_refl _) h a0 a1)) (fun v2 h1 => ?_))
  exact y_retI d_R_firstGapByShips_5 rfl rfl
noncomputable def B_R_freeOnes_4 (Θ : mW) (N : Nat) (K33 : mH → Int32 → Option (Int32 × mH)) (f0_ : Nat) (rc : mH → Int32 → Int32 → Option (Int32 × mH)) (h : mH) (v1_ : Int32) (v2_ : Int32) : Option (Int32 × mH) :=
  (if (J 60) ≤ v2_ then (K33 h v1_) else (gO Θ h 9 f0_ (bc (P_R_at Θ N h f0_ v2_) (fun v2 h1 => (jn (fun (h4 : mH) (s5 : Int32) => (rc h4 (v1_ + s5) (v2_ + (J 1)))) (fun j3 => (if v2 = (J (-1)) then (j3 h1 (J 1)) else (j3 h1 (J 0)))))))))
noncomputable def P_R_freeOnes_4 (Θ : mW) (N : Nat) (K33 : mH → Int32 → Option (Int32 × mH)) (f0_ : Nat) : Nat → mH → Int32 → Int32 → Option (Int32 × mH) :=
  lp (fun _ _ _ => none) (B_R_freeOnes_4 Θ N K33 f0_)
noncomputable def P_R_freeOnes (Θ : mW) (N : Nat) (h : mH) (a0 : Nat) : Option (Int32 × mH) :=
  (P_R_freeOnes_4 Θ N (fun h6 u7 => (some (u7, h6))) a0 N h (J 0) (J 0))
theorem SB_R_freeOnes_4 (hfl : HF l Θ) (hD : 5 ≤ d) {K33 : mH → Int32 → Option (Int32 × mH)} {f0_ : Nat}  (hK33 : ∀ (h : mH) (v1_ : Int32), mY l Θ d M_R_freeOnes 33 [none, some (.int v1_), none] [] h (tR vI) (K33 h v1_)) (rc : mH → Int32 → Int32 → Option (Int32 × mH)) (ih : ∀ (h : mH) (v1_ : Int32) (v2_ : Int32), mY l Θ d M_R_freeOnes 4 [some (.ref f0_), some (.int v1_), some (.int v2_)] [] h (tR vI) (rc h v1_ v2_)) : ∀ (h : mH) (v1_ : Int32) (v2_ : Int32), mY l Θ d M_R_freeOnes 4 [some (.ref f0_), some (.int v1_), some (.int v2_)] [] h (tR vI) (B_R_freeOnes_4 Θ N K33 f0_ rc h v1_ v2_) := by
  intro h v1_ v2_
  unfold B_R_freeOnes_4
  refine y_iload_n d_R_freeOnes_4 rfl ?_
  refine y_bipush (v := (J 60)) d_R_freeOnes_5 (by decide +kernel) ?_
  refine y_icmp_ge (tgt := 33) d_R_freeOnes_7 (by decide) ?_ ?_
  · exact y_wk (loc2 := [none, some (.int v1_), none]) ⟨rfl, trivial⟩ (hK33 h v1_)
  · refine y_iload_n d_R_freeOnes_10 rfl ?_
    refine y_aload_n d_R_freeOnes_11 rfl ?_
    refine y_iload_n d_R_freeOnes_12 rfl ?_
    refine y_gO (fun fs1 g1 => y_cI (c_vi (rest := [.int v1_]) d_R_freeOnes_13 k_R_at s_R_87 (Or.inl ⟨_, _, _, g1, rfl, rfl⟩) rfl rfl (Nat.le_of_ble_eq_true rfl) (Nat.le_trans (Nat.le_of_ble_eq_true rfl : 4 + 1 ≤ 5) hD) (S_R_at hfl (Nat.le_refl _) h f0_ v2_)) (fun v2 h1 => ?_))
    refine y_iconst (v := (J (-1))) d_R_freeOnes_16 rfl ?_
    refine y_jn (C := fun (j9 : mH → Int32 → Option (Int32 × mH)) => ∀ (h4 : mH) (s5 : Int32), mY l Θ d M_R_freeOnes 25 [some (.ref f0_), none, some (.int v2_)] [.int s5, .int v1_] h4 (tR vI) (j9 h4 s5)) (fun h4 s5 => ?_) (fun j3 Hj3 => ?_)
    · refine y_iadd (v := (v1_ + s5)) d_R_freeOnes_25 rfl ?_
      refine y_istore_n (loc2 := [some (.ref f0_), some (.int (v1_ + s5)), some (.int v2_)]) d_R_freeOnes_26 (Nat.le_of_ble_eq_true rfl) rfl rfl ?_
      refine y_iinc (v := (v2_ + (J 1))) (loc2 := [some (.ref f0_), some (.int (v1_ + s5)), some (.int (v2_ + (J 1)))]) d_R_freeOnes_27 rfl rfl (Nat.le_of_ble_eq_true rfl) rfl rfl ?_
      refine y_goto (tgt := 4) d_R_freeOnes_30 (by decide) ?_
      exact ih h4 (v1_ + s5) (v2_ + (J 1))
    · refine y_icmp_ne (tgt := 24) d_R_freeOnes_17 (by decide) ?_ ?_
      · refine y_iconst (v := (J 0)) d_R_freeOnes_24 rfl ?_
        exact y_wk (loc2 := [some (.ref f0_), none, some (.int v2_)]) ⟨rfl, ⟨rfl, trivial⟩⟩ (Hj3 h1 (J 0))
      · refine y_iconst (v := (J 1)) d_R_freeOnes_20 rfl ?_
        refine y_goto (tgt := 25) d_R_freeOnes_21 (by decide) ?_
        exact y_wk (loc2 := [some (.ref f0_), none, some (.int v2_)]) ⟨rfl, ⟨rfl, trivial⟩⟩ (Hj3 h1 (J 1))
theorem S_R_freeOnes_4 (hfl : HF l Θ) (hD : 5 ≤ d) {K33 : mH → Int32 → Option (Int32 × mH)} {f0_ : Nat}  (hK33 : ∀ (h : mH) (v1_ : Int32), mY l Θ d M_R_freeOnes 33 [none, some (.int v1_), none] [] h (tR vI) (K33 h v1_)) : ∀ (n : Nat) (h : mH) (v1_ : Int32) (v2_ : Int32), mY l Θ d M_R_freeOnes 4 [some (.ref f0_), some (.int v1_), some (.int v2_)] [] h (tR vI) (P_R_freeOnes_4 Θ N K33 f0_ n h v1_ v2_) :=
  fun n => lp_all (C := fun (rc : mH → Int32 → Int32 → Option (Int32 × mH)) => ∀ (h : mH) (v1_ : Int32) (v2_ : Int32), mY l Θ d M_R_freeOnes 4 [some (.ref f0_), some (.int v1_), some (.int v2_)] [] h (tR vI) (rc h v1_ v2_)) (fun _ _ _ => y_none) (fun rc ih => SB_R_freeOnes_4 hfl hD hK33 rc ih) n
theorem S_R_freeOnes (hfl : HF l Θ) (hD : 5 ≤ d) (h : mH) (a0 : Nat) : mMs l Θ d M_R_freeOnes [.ref a0] h (tR vI) (P_R_freeOnes Θ N h a0) := by
  refine mMs.of hfl (by decide +kernel) rfl (Nat.le_of_ble_eq_true rfl) (loc := [some (.ref a0), none, none]) rfl ?_
  unfold P_R_freeOnes
  refine y_iconst (v := (J 0)) d_R_freeOnes_0 rfl ?_
  refine y_istore_n (loc2 := [some (.ref a0), some (.int (J 0)), none]) d_R_freeOnes_1 (Nat.le_of_ble_eq_true rfl) rfl rfl ?_
  refine y_iconst (v := (J 0)) d_R_freeOnes_2 rfl ?_
  refine y_istore_n (loc2 := [some (.ref a0), some (.int (J 0)), some (.int (J 0))]) d_R_freeOnes_3 (Nat.le_of_ble_eq_true rfl) rfl rfl ?_
  refine S_R_freeOnes_4 hfl hD (fun h6 u7 => ?_) N h (J 0) (J 0)
  refine y_iload_n d_R_freeOnes_33 rfl ?_
  exact y_retI d_R_freeOnes_34 rfl rfl
noncomputable def P_R_freeMetres (Θ : mW) (N : Nat) (h : mH) (a0 : Nat) : Option (Int32 × mH) :=
  (bo (wF Θ h 9 a0 13 (.int (J 0))) (fun h1 => (gO Θ h1 9 a0 (bc (P_R_freeOnes Θ N h1 a0) (fun v3 h2 => (some (v3, h2)))))))
theorem S_R_freeMetres (hfl : HF l Θ) (hD : 6 ≤ d) (h : mH) (a0 : Nat) : mMs l Θ d M_R_freeMetres [.ref a0] h (tR vI) (P_R_freeMetres Θ N h a0) := by
  refine mMs.of hfl (by decide +kernel) rfl (Nat.le_of_ble_eq_true rfl) (loc := [some (.ref a0)]) rfl ?_
  unfold P_R_freeMetres
  refine y_aload_n d_R_freeMetres_0 rfl ?_
  refine y_iconst (v := (J 0)) d_R_freeMetres_1 rfl ?_
  refine y_put d_R_freeMetres_2 p_R_42 rfl rfl (fun h1 => ?_)
  refine y_aload_n d_R_freeMetres_5 rfl ?_
  refine y_gO (fun fs1 g1 => y_cI (c_vi (rest := []) d_R_freeMetres_6 k_R_freeOnes s_R_194 (Or.inl ⟨_, _, _, g1, rfl, rfl⟩) rfl rfl (Nat.le_of_ble_eq_true rfl) (Nat.le_trans (Nat.le_of_ble_eq_true rfl : 5 + 1 ≤ 6) hD) (S_R_freeOnes hfl (Nat.le_refl _) h1 a0)) (fun v3 h2 => ?_))
  exact y_retI d_R_freeMetres_9 rfl rfl
noncomputable def B_R_metres_4 (Θ : mW) (N : Nat) (K102 : mH → Int32 → Option (Int32 × mH)) (f0_ : Nat) (f1_ : Int32) (rc : mH → Int32 → Int32 → Option (Int32 × mH)) (h : mH) (v2_ : Int32) (v3_ : Int32) : Option (Int32 × mH) :=
  (if (J 8) ≤ v3_ then (K102 h v2_) else (jn (fun (h2 : mH) (s3 : Int32) => (bo (rA Θ h2 9 f0_ 0) (fun v4 => (bo (aR Θ h2 0 v4 (J 4)) (fun v5 => (jn (fun (h7 : mH) (s8 : Int32) => (jn (fun (h10 : mH) (s11 : Int32) => (rc h10 (v2_ + s11) (v3_ + (J 1)))) (fun j9 => (if s3 = 0 then (j9 h7 (J 0)) else (if s8 = 0 then (j9 h7 (J 61)) else (gO Θ h7 9 f0_ (bc (P_R_of Θ N h7 f0_ v3_ (J 1)) (fun v13 h12 => (j9 h12 v13))))))))) (fun j6 => (jn (fun (h15 : mH) => (j6 h15 (J 0))) (fun j14 => (if v5 ≤ v3_ then (j14 h2) else (gO Θ h2 9 f0_ (bc (P_R_isDocked Θ N h2 f0_ v3_) (fun v17 h16 => (if v17 = 0 then (gO Θ h16 9 f0_ (bc (P_R_of Θ N h16 f0_ v3_ (J 2)) (fun v19 h18 => (bo (rA Θ h18 9 f0_ 0) (fun v20 => (bo (aR Θ h18 0 v20 (J 1)) (fun v21 => (if (v21 - (J 2)) < v19 then (j14 h18) else (j6 h18 (J 1)))))))))) else (j14 h16))))))))))))))) (fun j1 => (if ((f1_ >>> (v3_ &&& 31)) &&& (J 1)) = (J 1) then (j1 h (J 1)) else (j1 h (J 0))))))
noncomputable def P_R_metres_4 (Θ : mW) (N : Nat) (K102 : mH → Int32 → Option (Int32 × mH)) (f0_ : Nat) (f1_ : Int32) : Nat → mH → Int32 → Int32 → Option (Int32 × mH) :=
  lp (fun _ _ _ => none) (B_R_metres_4 Θ N K102 f0_ f1_)
noncomputable def P_R_metres (Θ : mW) (N : Nat) (h : mH) (a0 : Nat) (a1 : Int32) : Option (Int32 × mH) :=
  (P_R_metres_4 Θ N (fun h22 u23 => (some (u23, h22))) a0 a1 N h (J 0) (J 0))
theorem SB_R_metres_4 (hfl : HF l Θ) (hD : 4 ≤ d) {K102 : mH → Int32 → Option (Int32 × mH)} {f0_ : Nat} {f1_ : Int32}  (hK102 : ∀ (h : mH) (v2_ : Int32), mY l Θ d M_R_metres 102 [none, none, some (.int v2_), none, none, none] [] h (tR vI) (K102 h v2_)) (rc : mH → Int32 → Int32 → Option (Int32 × mH)) (ih : ∀ (h : mH) (v2_ : Int32) (v3_ : Int32), mY l Θ d M_R_metres 4 [some (.ref f0_), some (.int f1_), some (.int v2_), some (.int v3_), none, none] [] h (tR vI) (rc h v2_ v3_)) : ∀ (h : mH) (v2_ : Int32) (v3_ : Int32), mY l Θ d M_R_metres 4 [some (.ref f0_), some (.int f1_), some (.int v2_), some (.int v3_), none, none] [] h (tR vI) (B_R_metres_4 Θ N K102 f0_ f1_ rc h v2_ v3_) := by
  intro h v2_ v3_
  unfold B_R_metres_4
  refine y_iload_n d_R_metres_4 rfl ?_
  refine y_bipush (v := (J 8)) d_R_metres_5 (by decide +kernel) ?_
  refine y_icmp_ge (tgt := 102) d_R_metres_7 (by decide) ?_ ?_
  · exact y_wk (loc2 := [none, none, some (.int v2_), none, none, none]) ⟨rfl, trivial⟩ (hK102 h v2_)
  · refine y_iload_n d_R_metres_10 rfl ?_
    refine y_iload_n d_R_metres_11 rfl ?_
    refine y_ishr (v := (f1_ >>> (v3_ &&& 31))) d_R_metres_12 rfl ?_
    refine y_iconst (v := (J 1)) d_R_metres_13 rfl ?_
    refine y_iand (v := ((f1_ >>> (v3_ &&& 31)) &&& (J 1))) d_R_metres_14 rfl ?_
    refine y_iconst (v := (J 1)) d_R_metres_15 rfl ?_
    refine y_jn (C := fun (j9 : mH → Int32 → Option (Int32 × mH)) => ∀ (h2 : mH) (s3 : Int32), mY l Θ d M_R_metres 24 [some (.ref f0_), some (.int f1_), some (.int v2_), some (.int v3_), none, none] [.int s3] h2 (tR vI) (j9 h2 s3)) (fun h2 s3 => ?_) (fun j1 Hj1 => ?_)
    · refine y_istore (loc2 := [some (.ref f0_), some (.int f1_), some (.int v2_), some (.int v3_), some (.int s3), none]) d_R_metres_24 (Nat.le_of_ble_eq_true rfl) rfl rfl ?_
      refine y_iload_n d_R_metres_26 rfl ?_
      refine y_aload_n d_R_metres_27 rfl ?_
      refine y_getA d_R_metres_28 f_R_9 (fun v4 => ?_)
      refine y_iconst (v := (J 4)) d_R_metres_31 rfl ?_
      refine y_iald d_R_metres_32 (fun v5 => ?_)
      refine y_jn (C := fun (j9 : mH → Int32 → Option (Int32 × mH)) => ∀ (h7 : mH) (s8 : Int32), mY l Θ d M_R_metres 66 [some (.ref f0_), some (.int f1_), some (.int v2_), some (.int v3_), some (.int s3), none] [.int s8] h7 (tR vI) (j9 h7 s8)) (fun h7 s8 => ?_) (fun j6 Hj6 => ?_)
      · refine y_istore (loc2 := [some (.ref f0_), some (.int f1_), some (.int v2_), some (.int v3_), some (.int s3), some (.int s8)]) d_R_metres_66 (Nat.le_of_ble_eq_true rfl) rfl rfl ?_
        refine y_iload_n d_R_metres_68 rfl ?_
        refine y_iload d_R_metres_69 rfl ?_
        refine y_jn (C := fun (j9 : mH → Int32 → Option (Int32 × mH)) => ∀ (h10 : mH) (s11 : Int32), mY l Θ d M_R_metres 94 [some (.ref f0_), some (.int f1_), none, some (.int v3_), none, none] [.int s11, .int v2_] h10 (tR vI) (j9 h10 s11)) (fun h10 s11 => ?_) (fun j9 Hj9 => ?_)
        · refine y_iadd (v := (v2_ + s11)) d_R_metres_94 rfl ?_
          refine y_istore_n (loc2 := [some (.ref f0_), some (.int f1_), some (.int (v2_ + s11)), some (.int v3_), none, none]) d_R_metres_95 (Nat.le_of_ble_eq_true rfl) rfl rfl ?_
          refine y_iinc (v := (v3_ + (J 1))) (loc2 := [some (.ref f0_), some (.int f1_), some (.int (v2_ + s11)), some (.int (v3_ + (J 1))), none, none]) d_R_metres_96 rfl rfl (Nat.le_of_ble_eq_true rfl) rfl rfl ?_
          refine y_goto (tgt := 4) d_R_metres_99 (by decide) ?_
          exact ih h10 (v2_ + s11) (v3_ + (J 1))
        · refine y_if_ne (tgt := 78) d_R_metres_71 (by decide) ?_ ?_
          · refine y_iload d_R_metres_78 rfl ?_
            refine y_if_eq (tgt := 92) d_R_metres_80 (by decide) ?_ ?_
            · refine y_bipush (v := (J 61)) d_R_metres_92 (by decide +kernel) ?_
              exact y_wk (loc2 := [some (.ref f0_), some (.int f1_), none, some (.int v3_), none, none]) ⟨rfl, ⟨rfl, ⟨rfl, trivial⟩⟩⟩ (Hj9 h7 (J 61))
            · refine y_aload_n d_R_metres_83 rfl ?_
              refine y_iload_n d_R_metres_84 rfl ?_
              refine y_iconst (v := (J 1)) d_R_metres_85 rfl ?_
              refine y_gO (fun fs1 g1 => y_cI (c_vi (rest := [.int v2_]) d_R_metres_86 k_R_of s_R_67 (Or.inl ⟨_, _, _, g1, rfl, rfl⟩) rfl rfl (Nat.le_of_ble_eq_true rfl) (Nat.le_trans (Nat.le_of_ble_eq_true rfl : 2 + 1 ≤ 4) hD) (S_R_of hfl (Nat.le_refl _) h7 f0_ v3_ (J 1))) (fun v13 h12 => ?_))
              refine y_goto (tgt := 94) d_R_metres_89 (by decide) ?_
              exact y_wk (loc2 := [some (.ref f0_), some (.int f1_), none, some (.int v3_), none, none]) ⟨rfl, ⟨rfl, ⟨rfl, trivial⟩⟩⟩ (Hj9 h12 v13)
          · refine y_iconst (v := (J 0)) d_R_metres_74 rfl ?_
            refine y_goto (tgt := 94) d_R_metres_75 (by decide) ?_
            exact y_wk (loc2 := [some (.ref f0_), some (.int f1_), none, some (.int v3_), none, none]) ⟨rfl, ⟨rfl, ⟨rfl, trivial⟩⟩⟩ (Hj9 h7 (J 0))
      · refine y_jn (C := fun (j9 : mH → Option (Int32 × mH)) => ∀ (h15 : mH), mY l Θ d M_R_metres 65 [some (.ref f0_), some (.int f1_), some (.int v2_), some (.int v3_), some (.int s3), none] [] h15 (tR vI) (j9 h15)) (fun h15 => ?_) (fun j14 Hj14 => ?_)
        · refine y_iconst (v := (J 0)) d_R_metres_65 rfl ?_
          exact Hj6 h15 (J 0)
        · refine y_icmp_ge (tgt := 65) d_R_metres_33 (by decide) ?_ ?_
          · exact Hj14 h2
          · refine y_aload_n d_R_metres_36 rfl ?_
            refine y_iload_n d_R_metres_37 rfl ?_
            refine y_gO (fun fs1 g1 => y_cI (c_vi (rest := []) d_R_metres_38 k_R_isDocked s_R_79 (Or.inl ⟨_, _, _, g1, rfl, rfl⟩) rfl rfl (Nat.le_of_ble_eq_true rfl) (Nat.le_trans (Nat.le_of_ble_eq_true rfl : 3 + 1 ≤ 4) hD) (S_R_isDocked hfl (Nat.le_refl _) h2 f0_ v3_)) (fun v17 h16 => ?_))
            refine y_if_ne (tgt := 65) d_R_metres_41 (by decide) ?_ ?_
            · exact Hj14 h16
            · refine y_aload_n d_R_metres_44 rfl ?_
              refine y_iload_n d_R_metres_45 rfl ?_
              refine y_iconst (v := (J 2)) d_R_metres_46 rfl ?_
              refine y_gO (fun fs1 g1 => y_cI (c_vi (rest := []) d_R_metres_47 k_R_of s_R_67 (Or.inl ⟨_, _, _, g1, rfl, rfl⟩) rfl rfl (Nat.le_of_ble_eq_true rfl) (Nat.le_trans (Nat.le_of_ble_eq_true rfl : 2 + 1 ≤ 4) hD) (S_R_of hfl (Nat.le_refl _) h16 f0_ v3_ (J 2))) (fun v19 h18 => ?_))
              refine y_aload_n d_R_metres_50 rfl ?_
              refine y_getA d_R_metres_51 f_R_9 (fun v20 => ?_)
              refine y_iconst (v := (J 1)) d_R_metres_54 rfl ?_
              refine y_iald d_R_metres_55 (fun v21 => ?_)
              refine y_iconst (v := (J 2)) d_R_metres_56 rfl ?_
              refine y_isub (v := (v21 - (J 2))) d_R_metres_57 rfl ?_
              refine y_icmp_gt (tgt := 65) d_R_metres_58 (by decide) ?_ ?_
              · exact Hj14 h18
              · refine y_iconst (v := (J 1)) d_R_metres_61 rfl ?_
                refine y_goto (tgt := 66) d_R_metres_62 (by decide) ?_
                exact Hj6 h18 (J 1)
    · refine y_icmp_ne (tgt := 23) d_R_metres_16 (by decide) ?_ ?_
      · refine y_iconst (v := (J 0)) d_R_metres_23 rfl ?_
        exact Hj1 h (J 0)
      · refine y_iconst (v := (J 1)) d_R_metres_19 rfl ?_
        refine y_goto (tgt := 24) d_R_metres_20 (by decide) ?_
        exact Hj1 h (J 1)
theorem S_R_metres_4 (hfl : HF l Θ) (hD : 4 ≤ d) {K102 : mH → Int32 → Option (Int32 × mH)} {f0_ : Nat} {f1_ : Int32}  (hK102 : ∀ (h : mH) (v2_ : Int32), mY l Θ d M_R_metres 102 [none, none, some (.int v2_), none, none, none] [] h (tR vI) (K102 h v2_)) : ∀ (n : Nat) (h : mH) (v2_ : Int32) (v3_ : Int32), mY l Θ d M_R_metres 4 [some (.ref f0_), some (.int f1_), some (.int v2_), some (.int v3_), none, none] [] h (tR vI) (P_R_metres_4 Θ N K102 f0_ f1_ n h v2_ v3_) :=
  fun n => lp_all (C := fun (rc : mH → Int32 → Int32 → Option (Int32 × mH)) => ∀ (h : mH) (v2_ : Int32) (v3_ : Int32), mY l Θ d M_R_metres 4 [some (.ref f0_), some (.int f1_), some (.int v2_), some (.int v3_), none, none] [] h (tR vI) (rc h v2_ v3_)) (fun _ _ _ => y_none) (fun rc ih => SB_R_metres_4 hfl hD hK102 rc ih) n
theorem S_R_metres (hfl : HF l Θ) (hD : 4 ≤ d) (h : mH) (a0 : Nat) (a1 : Int32) : mMs l Θ d M_R_metres [.ref a0, .int a1] h (tR vI) (P_R_metres Θ N h a0 a1) := by
  refine mMs.of hfl (by decide +kernel) rfl (Nat.le_of_ble_eq_true rfl) (loc := [some (.ref a0), some (.int a1), none, none, none, none]) rfl ?_
  unfold P_R_metres
  refine y_iconst (v := (J 0)) d_R_metres_0 rfl ?_
  refine y_istore_n (loc2 := [some (.ref a0), some (.int a1), some (.int (J 0)), none, none, none]) d_R_metres_1 (Nat.le_of_ble_eq_true rfl) rfl rfl ?_
  refine y_iconst (v := (J 0)) d_R_metres_2 rfl ?_
  refine y_istore_n (loc2 := [some (.ref a0), some (.int a1), some (.int (J 0)), some (.int (J 0)), none, none]) d_R_metres_3 (Nat.le_of_ble_eq_true rfl) rfl rfl ?_
  refine S_R_metres_4 hfl hD (fun h22 u23 => ?_) N h (J 0) (J 0)
  refine y_iload_n d_R_metres_102 rfl ?_
  exact y_retI d_R_metres_103 rfl rfl
noncomputable def B_R_takesGap_14 (Θ : mW) (N : Nat) (K67 : mH → Option (Unit × mH)) (f0_ : Nat) (f1_ : Int32) (f2_ : Int32) (rc : mH → Int32 → Option (Unit × mH)) (h : mH) (v3_ : Int32) : Option (Unit × mH) :=
  (if v3_ ≤ 0 then (K67 h) else (bo (rA Θ h 9 f0_ 14) (fun v3 => (bo (aR Θ h 1 v3 f2_) (fun v4 => (if v4 = 0 then (bo (rA Θ h 9 f0_ 14) (fun v5 => (bo (rA Θ h 9 f0_ 14) (fun v6 => (bo (aR Θ h 1 v6 (f2_ ^^^ v3_)) (fun v7 => (jn (fun (h9 : mH) (s10 : Int32) => (bo (aW Θ h9 1 v5 f2_ (vp_nar .boolean s10)) (fun h11 => (rc h11 ((v3_ - (J 1)) &&& f2_))))) (fun j8 => (jn (fun (h13 : mH) => (j8 h13 (J 0))) (fun j12 => (if v7 = 0 then (j12 h) else (gO Θ h 9 f0_ (bc (P_R_metres Θ N h f0_ v3_) (fun v15 h14 => (if f1_ < v15 then (j12 h14) else (j8 h14 (J 1))))))))))))))))) else (K67 h)))))))
noncomputable def P_R_takesGap_14 (Θ : mW) (N : Nat) (K67 : mH → Option (Unit × mH)) (f0_ : Nat) (f1_ : Int32) (f2_ : Int32) : Nat → mH → Int32 → Option (Unit × mH) :=
  lp (fun _ _ => none) (B_R_takesGap_14 Θ N K67 f0_ f1_ f2_)
noncomputable def B_R_takesGap_8 (Θ : mW) (N : Nat) (K73 : mH → Option (Unit × mH)) (f0_ : Nat) (f1_ : Int32) (rc : mH → Int32 → Option (Unit × mH)) (h : mH) (v2_ : Int32) : Option (Unit × mH) :=
  (if v2_ ≤ 0 then (K73 h) else (P_R_takesGap_14 Θ N (fun h16 => (rc h16 (v2_ + (J (-1))))) f0_ f1_ v2_ N h v2_))
noncomputable def P_R_takesGap_8 (Θ : mW) (N : Nat) (K73 : mH → Option (Unit × mH)) (f0_ : Nat) (f1_ : Int32) : Nat → mH → Int32 → Option (Unit × mH) :=
  lp (fun _ _ => none) (B_R_takesGap_8 Θ N K73 f0_ f1_)
noncomputable def P_R_takesGap (Θ : mW) (N : Nat) (h : mH) (a0 : Nat) (a1 : Int32) : Option (Unit × mH) :=
  (bo (rA Θ h 9 a0 14) (fun v1 => (bo (aN Θ h v1) (fun v2 => (P_R_takesGap_8 Θ N (fun h17 => (some ((), h17))) a0 a1 N h (v2 - (J 1)))))))
theorem SB_R_takesGap_14 (hfl : HF l Θ) (hD : 5 ≤ d) {K67 : mH → Option (Unit × mH)} {f0_ : Nat} {f1_ : Int32} {f2_ : Int32}  (hK67 : ∀ (h : mH), mY l Θ d M_R_takesGap 67 [some (.ref f0_), some (.int f1_), some (.int f2_), none] [] h (tR vU) (K67 h)) (rc : mH → Int32 → Option (Unit × mH)) (ih : ∀ (h : mH) (v3_ : Int32), mY l Θ d M_R_takesGap 14 [some (.ref f0_), some (.int f1_), some (.int f2_), some (.int v3_)] [] h (tR vU) (rc h v3_)) : ∀ (h : mH) (v3_ : Int32), mY l Θ d M_R_takesGap 14 [some (.ref f0_), some (.int f1_), some (.int f2_), some (.int v3_)] [] h (tR vU) (B_R_takesGap_14 Θ N K67 f0_ f1_ f2_ rc h v3_) := by
  intro h v3_
  unfold B_R_takesGap_14
  refine y_iload_n d_R_takesGap_14 rfl ?_
  refine y_if_le (tgt := 67) d_R_takesGap_15 (by decide) ?_ ?_
  · exact y_wk (loc2 := [some (.ref f0_), some (.int f1_), some (.int f2_), none]) ⟨rfl, ⟨rfl, ⟨rfl, trivial⟩⟩⟩ (hK67 h)
  · refine y_aload_n d_R_takesGap_18 rfl ?_
    refine y_getA d_R_takesGap_19 f_R_35 (fun v3 => ?_)
    refine y_iload_n d_R_takesGap_22 rfl ?_
    refine y_zald d_R_takesGap_23 (fun v4 => ?_)
    refine y_if_ne (tgt := 67) d_R_takesGap_24 (by decide) ?_ ?_
    · exact y_wk (loc2 := [some (.ref f0_), some (.int f1_), some (.int f2_), none]) ⟨rfl, ⟨rfl, ⟨rfl, trivial⟩⟩⟩ (hK67 h)
    · refine y_aload_n d_R_takesGap_27 rfl ?_
      refine y_getA d_R_takesGap_28 f_R_35 (fun v5 => ?_)
      refine y_iload_n d_R_takesGap_31 rfl ?_
      refine y_aload_n d_R_takesGap_32 rfl ?_
      refine y_getA d_R_takesGap_33 f_R_35 (fun v6 => ?_)
      refine y_iload_n d_R_takesGap_36 rfl ?_
      refine y_iload_n d_R_takesGap_37 rfl ?_
      refine y_ixor (v := (f2_ ^^^ v3_)) d_R_takesGap_38 rfl ?_
      refine y_zald d_R_takesGap_39 (fun v7 => ?_)
      refine y_jn (C := fun (j9 : mH → Int32 → Option (Unit × mH)) => ∀ (h9 : mH) (s10 : Int32), mY l Θ d M_R_takesGap 57 [some (.ref f0_), some (.int f1_), some (.int f2_), some (.int v3_)] [.int s10, .int f2_, .ref v5] h9 (tR vU) (j9 h9 s10)) (fun h9 s10 => ?_) (fun j8 Hj8 => ?_)
      · refine y_zast d_R_takesGap_57 (fun h11 => ?_)
        refine y_iload_n d_R_takesGap_58 rfl ?_
        refine y_iconst (v := (J 1)) d_R_takesGap_59 rfl ?_
        refine y_isub (v := (v3_ - (J 1))) d_R_takesGap_60 rfl ?_
        refine y_iload_n d_R_takesGap_61 rfl ?_
        refine y_iand (v := ((v3_ - (J 1)) &&& f2_)) d_R_takesGap_62 rfl ?_
        refine y_istore_n (loc2 := [some (.ref f0_), some (.int f1_), some (.int f2_), some (.int ((v3_ - (J 1)) &&& f2_))]) d_R_takesGap_63 (Nat.le_of_ble_eq_true rfl) rfl rfl ?_
        refine y_goto (tgt := 14) d_R_takesGap_64 (by decide) ?_
        exact ih h11 ((v3_ - (J 1)) &&& f2_)
      · refine y_jn (C := fun (j9 : mH → Option (Unit × mH)) => ∀ (h13 : mH), mY l Θ d M_R_takesGap 56 [some (.ref f0_), some (.int f1_), some (.int f2_), some (.int v3_)] [.int f2_, .ref v5] h13 (tR vU) (j9 h13)) (fun h13 => ?_) (fun j12 Hj12 => ?_)
        · refine y_iconst (v := (J 0)) d_R_takesGap_56 rfl ?_
          exact Hj8 h13 (J 0)
        · refine y_if_eq (tgt := 56) d_R_takesGap_40 (by decide) ?_ ?_
          · exact Hj12 h
          · refine y_aload_n d_R_takesGap_43 rfl ?_
            refine y_iload_n d_R_takesGap_44 rfl ?_
            refine y_gO (fun fs1 g1 => y_cI (c_vi (rest := [.int f2_, .ref v5]) d_R_takesGap_45 k_R_metres s_R_197 (Or.inl ⟨_, _, _, g1, rfl, rfl⟩) rfl rfl (Nat.le_of_ble_eq_true rfl) (Nat.le_trans (Nat.le_of_ble_eq_true rfl : 4 + 1 ≤ 5) hD) (S_R_metres hfl (Nat.le_refl _) h f0_ v3_)) (fun v15 h14 => ?_))
            refine y_iload_n d_R_takesGap_48 rfl ?_
            refine y_icmp_gt (tgt := 56) d_R_takesGap_49 (by decide) ?_ ?_
            · exact Hj12 h14
            · refine y_iconst (v := (J 1)) d_R_takesGap_52 rfl ?_
              refine y_goto (tgt := 57) d_R_takesGap_53 (by decide) ?_
              exact Hj8 h14 (J 1)
theorem S_R_takesGap_14 (hfl : HF l Θ) (hD : 5 ≤ d) {K67 : mH → Option (Unit × mH)} {f0_ : Nat} {f1_ : Int32} {f2_ : Int32}  (hK67 : ∀ (h : mH), mY l Θ d M_R_takesGap 67 [some (.ref f0_), some (.int f1_), some (.int f2_), none] [] h (tR vU) (K67 h)) : ∀ (n : Nat) (h : mH) (v3_ : Int32), mY l Θ d M_R_takesGap 14 [some (.ref f0_), some (.int f1_), some (.int f2_), some (.int v3_)] [] h (tR vU) (P_R_takesGap_14 Θ N K67 f0_ f1_ f2_ n h v3_) :=
  fun n => lp_all (C := fun (rc : mH → Int32 → Option (Unit × mH)) => ∀ (h : mH) (v3_ : Int32), mY l Θ d M_R_takesGap 14 [some (.ref f0_), some (.int f1_), some (.int f2_), some (.int v3_)] [] h (tR vU) (rc h v3_)) (fun _ _ => y_none) (fun rc ih => SB_R_takesGap_14 hfl hD hK67 rc ih) n
theorem SB_R_takesGap_8 (hfl : HF l Θ) (hD : 5 ≤ d) {K73 : mH → Option (Unit × mH)} {f0_ : Nat} {f1_ : Int32}  (hK73 : ∀ (h : mH), mY l Θ d M_R_takesGap 73 [none, none, none, none] [] h (tR vU) (K73 h)) (rc : mH → Int32 → Option (Unit × mH)) (ih : ∀ (h : mH) (v2_ : Int32), mY l Θ d M_R_takesGap 8 [some (.ref f0_), some (.int f1_), some (.int v2_), none] [] h (tR vU) (rc h v2_)) : ∀ (h : mH) (v2_ : Int32), mY l Θ d M_R_takesGap 8 [some (.ref f0_), some (.int f1_), some (.int v2_), none] [] h (tR vU) (B_R_takesGap_8 Θ N K73 f0_ f1_ rc h v2_) := by
  intro h v2_
  unfold B_R_takesGap_8
  refine y_iload_n d_R_takesGap_8 rfl ?_
  refine y_if_le (tgt := 73) d_R_takesGap_9 (by decide) ?_ ?_
  · exact y_wk (loc2 := [none, none, none, none]) trivial (hK73 h)
  · refine y_iload_n d_R_takesGap_12 rfl ?_
    refine y_istore_n (loc2 := [some (.ref f0_), some (.int f1_), some (.int v2_), some (.int v2_)]) d_R_takesGap_13 (Nat.le_of_ble_eq_true rfl) rfl rfl ?_
    refine S_R_takesGap_14 hfl hD (fun h16 => ?_) N h v2_
    refine y_iinc (v := (v2_ + (J (-1)))) (loc2 := [some (.ref f0_), some (.int f1_), some (.int (v2_ + (J (-1)))), none]) d_R_takesGap_67 rfl rfl (Nat.le_of_ble_eq_true rfl) rfl rfl ?_
    refine y_goto (tgt := 8) d_R_takesGap_70 (by decide) ?_
    exact ih h16 (v2_ + (J (-1)))
theorem S_R_takesGap_8 (hfl : HF l Θ) (hD : 5 ≤ d) {K73 : mH → Option (Unit × mH)} {f0_ : Nat} {f1_ : Int32}  (hK73 : ∀ (h : mH), mY l Θ d M_R_takesGap 73 [none, none, none, none] [] h (tR vU) (K73 h)) : ∀ (n : Nat) (h : mH) (v2_ : Int32), mY l Θ d M_R_takesGap 8 [some (.ref f0_), some (.int f1_), some (.int v2_), none] [] h (tR vU) (P_R_takesGap_8 Θ N K73 f0_ f1_ n h v2_) :=
  fun n => lp_all (C := fun (rc : mH → Int32 → Option (Unit × mH)) => ∀ (h : mH) (v2_ : Int32), mY l Θ d M_R_takesGap 8 [some (.ref f0_), some (.int f1_), some (.int v2_), none] [] h (tR vU) (rc h v2_)) (fun _ _ => y_none) (fun rc ih => SB_R_takesGap_8 hfl hD hK73 rc ih) n
theorem S_R_takesGap (hfl : HF l Θ) (hD : 5 ≤ d) (h : mH) (a0 : Nat) (a1 : Int32) : mMs l Θ d M_R_takesGap [.ref a0, .int a1] h (tR vU) (P_R_takesGap Θ N h a0 a1) := by
  refine mMs.of hfl (by decide +kernel) rfl (Nat.le_of_ble_eq_true rfl) (loc := [some (.ref a0), some (.int a1), none, none]) rfl ?_
  unfold P_R_takesGap
  refine y_aload_n d_R_takesGap_0 rfl ?_
  refine y_getA d_R_takesGap_1 f_R_35 (fun v1 => ?_)
  refine y_alen d_R_takesGap_4 (fun v2 => ?_)
  refine y_iconst (v := (J 1)) d_R_takesGap_5 rfl ?_
  refine y_isub (v := (v2 - (J 1))) d_R_takesGap_6 rfl ?_
  refine y_istore_n (loc2 := [some (.ref a0), some (.int a1), some (.int (v2 - (J 1))), none]) d_R_takesGap_7 (Nat.le_of_ble_eq_true rfl) rfl rfl ?_
  refine S_R_takesGap_8 hfl hD (fun h17 => ?_) N h (v2 - (J 1))
  exact y_retU d_R_takesGap_73 rfl
noncomputable def B_R_packs_2 (Θ : mW) (N : Nat) (K32 : mH → Option (Unit × mH)) (f0_ : Nat) (rc : mH → Int32 → Option (Unit × mH)) (h : mH) (v1_ : Int32) : Option (Unit × mH) :=
  (bo (rA Θ h 9 f0_ 14) (fun v1 => (bo (aN Θ h v1) (fun v2 => (if v2 ≤ v1_ then (K32 h) else (bo (rA Θ h 9 f0_ 14) (fun v3 => (jn (fun (h5 : mH) (s6 : Int32) => (bo (aW Θ h5 1 v3 v1_ (vp_nar .boolean s6)) (fun h7 => (rc h7 (v1_ + (J 1)))))) (fun j4 => (if v1_ = 0 then (j4 h (J 1)) else (j4 h (J 0))))))))))))
noncomputable def P_R_packs_2 (Θ : mW) (N : Nat) (K32 : mH → Option (Unit × mH)) (f0_ : Nat) : Nat → mH → Int32 → Option (Unit × mH) :=
  lp (fun _ _ => none) (B_R_packs_2 Θ N K32 f0_)
noncomputable def B_R_packs_36 (Θ : mW) (N : Nat) (K80 : mH → Option (Unit × mH)) (f0_ : Nat) (rc : mH → Int32 → Int32 → Option (Unit × mH)) (h : mH) (v1_ : Int32) (v2_ : Int32) : Option (Unit × mH) :=
  (if (J 60) < v2_ then (K80 h) else (jn (fun (h10 : mH) (u11 : Int32) => (rc h10 u11 (v2_ + (J 1)))) (fun j9 => (jn (fun (h13 : mH) (u14 : Int32) => (if u14 ≤ 0 then (j9 h13 u14) else (gO Θ h13 9 f0_ (bc (P_R_takesGap Θ N h13 f0_ u14) (fun v16 h15 => (j9 h15 (J 0))))))) (fun j12 => (if (J 60) ≤ v2_ then (j12 h v1_) else (gO Θ h 9 f0_ (bc (P_R_at Θ N h f0_ v2_) (fun v18 h17 => (if v18 = (J (-1)) then (j9 h17 (v1_ + (J 1))) else (j12 h17 v1_)))))))))))
noncomputable def P_R_packs_36 (Θ : mW) (N : Nat) (K80 : mH → Option (Unit × mH)) (f0_ : Nat) : Nat → mH → Int32 → Int32 → Option (Unit × mH) :=
  lp (fun _ _ _ => none) (B_R_packs_36 Θ N K80 f0_)
noncomputable def P_R_packs (Θ : mW) (N : Nat) (h : mH) (a0 : Nat) : Option (Unit × mH) :=
  (P_R_packs_2 Θ N (fun h8 => (P_R_packs_36 Θ N (fun h19 => (some ((), h19))) a0 N h8 (J 0) (J 0))) a0 N h (J 0))
theorem SB_R_packs_2 (hfl : HF l Θ) (hD : 6 ≤ d) {K32 : mH → Option (Unit × mH)} {f0_ : Nat}  (hK32 : ∀ (h : mH), mY l Θ d M_R_packs 32 [some (.ref f0_), none, none] [] h (tR vU) (K32 h)) (rc : mH → Int32 → Option (Unit × mH)) (ih : ∀ (h : mH) (v1_ : Int32), mY l Θ d M_R_packs 2 [some (.ref f0_), some (.int v1_), none] [] h (tR vU) (rc h v1_)) : ∀ (h : mH) (v1_ : Int32), mY l Θ d M_R_packs 2 [some (.ref f0_), some (.int v1_), none] [] h (tR vU) (B_R_packs_2 Θ N K32 f0_ rc h v1_) := by
  intro h v1_
  unfold B_R_packs_2
  refine y_iload_n d_R_packs_2 rfl ?_
  refine y_aload_n d_R_packs_3 rfl ?_
  refine y_getA d_R_packs_4 f_R_35 (fun v1 => ?_)
  refine y_alen d_R_packs_7 (fun v2 => ?_)
  refine y_icmp_ge (tgt := 32) d_R_packs_8 (by decide) ?_ ?_
  · exact y_wk (loc2 := [some (.ref f0_), none, none]) ⟨rfl, trivial⟩ (hK32 h)
  · refine y_aload_n d_R_packs_11 rfl ?_
    refine y_getA d_R_packs_12 f_R_35 (fun v3 => ?_)
    refine y_iload_n d_R_packs_15 rfl ?_
    refine y_iload_n d_R_packs_16 rfl ?_
    refine y_jn (C := fun (j9 : mH → Int32 → Option (Unit × mH)) => ∀ (h5 : mH) (s6 : Int32), mY l Θ d M_R_packs 25 [some (.ref f0_), some (.int v1_), none] [.int s6, .int v1_, .ref v3] h5 (tR vU) (j9 h5 s6)) (fun h5 s6 => ?_) (fun j4 Hj4 => ?_)
    · refine y_zast d_R_packs_25 (fun h7 => ?_)
      refine y_iinc (v := (v1_ + (J 1))) (loc2 := [some (.ref f0_), some (.int (v1_ + (J 1))), none]) d_R_packs_26 rfl rfl (Nat.le_of_ble_eq_true rfl) rfl rfl ?_
      refine y_goto (tgt := 2) d_R_packs_29 (by decide) ?_
      exact ih h7 (v1_ + (J 1))
    · refine y_if_ne (tgt := 24) d_R_packs_17 (by decide) ?_ ?_
      · refine y_iconst (v := (J 0)) d_R_packs_24 rfl ?_
        exact Hj4 h (J 0)
      · refine y_iconst (v := (J 1)) d_R_packs_20 rfl ?_
        refine y_goto (tgt := 25) d_R_packs_21 (by decide) ?_
        exact Hj4 h (J 1)
theorem S_R_packs_2 (hfl : HF l Θ) (hD : 6 ≤ d) {K32 : mH → Option (Unit × mH)} {f0_ : Nat}  (hK32 : ∀ (h : mH), mY l Θ d M_R_packs 32 [some (.ref f0_), none, none] [] h (tR vU) (K32 h)) : ∀ (n : Nat) (h : mH) (v1_ : Int32), mY l Θ d M_R_packs 2 [some (.ref f0_), some (.int v1_), none] [] h (tR vU) (P_R_packs_2 Θ N K32 f0_ n h v1_) :=
  fun n => lp_all (C := fun (rc : mH → Int32 → Option (Unit × mH)) => ∀ (h : mH) (v1_ : Int32), mY l Θ d M_R_packs 2 [some (.ref f0_), some (.int v1_), none] [] h (tR vU) (rc h v1_)) (fun _ _ => y_none) (fun rc ih => SB_R_packs_2 hfl hD hK32 rc ih) n
theorem SB_R_packs_36 (hfl : HF l Θ) (hD : 6 ≤ d) {K80 : mH → Option (Unit × mH)} {f0_ : Nat}  (hK80 : ∀ (h : mH), mY l Θ d M_R_packs 80 [none, none, none] [] h (tR vU) (K80 h)) (rc : mH → Int32 → Int32 → Option (Unit × mH)) (ih : ∀ (h : mH) (v1_ : Int32) (v2_ : Int32), mY l Θ d M_R_packs 36 [some (.ref f0_), some (.int v1_), some (.int v2_)] [] h (tR vU) (rc h v1_ v2_)) : ∀ (h : mH) (v1_ : Int32) (v2_ : Int32), mY l Θ d M_R_packs 36 [some (.ref f0_), some (.int v1_), some (.int v2_)] [] h (tR vU) (B_R_packs_36 Θ N K80 f0_ rc h v1_ v2_) := by
  intro h v1_ v2_
  unfold B_R_packs_36
  refine y_iload_n d_R_packs_36 rfl ?_
  refine y_bipush (v := (J 60)) d_R_packs_37 (by decide +kernel) ?_
  refine y_icmp_gt (tgt := 80) d_R_packs_39 (by decide) ?_ ?_
  · exact y_wk (loc2 := [none, none, none]) trivial (hK80 h)
  · refine y_iload_n d_R_packs_42 rfl ?_
    refine y_bipush (v := (J 60)) d_R_packs_43 (by decide +kernel) ?_
    refine y_jn (C := fun (j9 : mH → Int32 → Option (Unit × mH)) => ∀ (h10 : mH) (u11 : Int32), mY l Θ d M_R_packs 74 [some (.ref f0_), some (.int u11), some (.int v2_)] [] h10 (tR vU) (j9 h10 u11)) (fun h10 u11 => ?_) (fun j9 Hj9 => ?_)
    · refine y_iinc (v := (v2_ + (J 1))) (loc2 := [some (.ref f0_), some (.int u11), some (.int (v2_ + (J 1)))]) d_R_packs_74 rfl rfl (Nat.le_of_ble_eq_true rfl) rfl rfl ?_
      refine y_goto (tgt := 36) d_R_packs_77 (by decide) ?_
      exact ih h10 u11 (v2_ + (J 1))
    · refine y_jn (C := fun (j9 : mH → Int32 → Option (Unit × mH)) => ∀ (h13 : mH) (u14 : Int32), mY l Θ d M_R_packs 63 [some (.ref f0_), some (.int u14), some (.int v2_)] [] h13 (tR vU) (j9 h13 u14)) (fun h13 u14 => ?_) (fun j12 Hj12 => ?_)
      · refine y_iload_n d_R_packs_63 rfl ?_
        refine y_if_le (tgt := 74) d_R_packs_64 (by decide) ?_ ?_
        · exact Hj9 h13 u14
        · refine y_aload_n d_R_packs_67 rfl ?_
          refine y_iload_n d_R_packs_68 rfl ?_
          refine y_gO (fun fs1 g1 => y_cU (c_vi (rest := []) d_R_packs_69 k_R_takesGap s_R_200 (Or.inl ⟨_, _, _, g1, rfl, rfl⟩) rfl rfl (Nat.le_of_ble_eq_true rfl) (Nat.le_trans (Nat.le_of_ble_eq_true rfl : 5 + 1 ≤ 6) hD) (S_R_takesGap hfl (Nat.le_refl _) h13 f0_ u14)) (fun v16 h15 => ?_))
          refine y_iconst (v := (J 0)) d_R_packs_72 rfl ?_
          refine y_istore_n (loc2 := [some (.ref f0_), some (.int (J 0)), some (.int v2_)]) d_R_packs_73 (Nat.le_of_ble_eq_true rfl) rfl rfl ?_
          exact Hj9 h15 (J 0)
      · refine y_icmp_ge (tgt := 63) d_R_packs_45 (by decide) ?_ ?_
        · exact Hj12 h v1_
        · refine y_aload_n d_R_packs_48 rfl ?_
          refine y_iload_n d_R_packs_49 rfl ?_
          refine y_gO (fun fs1 g1 => y_cI (c_vi (rest := []) d_R_packs_50 k_R_at s_R_87 (Or.inl ⟨_, _, _, g1, rfl, rfl⟩) rfl rfl (Nat.le_of_ble_eq_true rfl) (Nat.le_trans (Nat.le_of_ble_eq_true rfl : 4 + 1 ≤ 6) hD) (S_R_at hfl (Nat.le_refl _) h f0_ v2_)) (fun v18 h17 => ?_))
          refine y_iconst (v := (J (-1))) d_R_packs_53 rfl ?_
          refine y_icmp_ne (tgt := 63) d_R_packs_54 (by decide) ?_ ?_
          · exact Hj12 h17 v1_
          · refine y_iinc (v := (v1_ + (J 1))) (loc2 := [some (.ref f0_), some (.int (v1_ + (J 1))), some (.int v2_)]) d_R_packs_57 rfl rfl (Nat.le_of_ble_eq_true rfl) rfl rfl ?_
            refine y_goto (tgt := 74) d_R_packs_60 (by decide) ?_
            exact Hj9 h17 (v1_ + (J 1))
theorem S_R_packs_36 (hfl : HF l Θ) (hD : 6 ≤ d) {K80 : mH → Option (Unit × mH)} {f0_ : Nat}  (hK80 : ∀ (h : mH), mY l Θ d M_R_packs 80 [none, none, none] [] h (tR vU) (K80 h)) : ∀ (n : Nat) (h : mH) (v1_ : Int32) (v2_ : Int32), mY l Θ d M_R_packs 36 [some (.ref f0_), some (.int v1_), some (.int v2_)] [] h (tR vU) (P_R_packs_36 Θ N K80 f0_ n h v1_ v2_) :=
  fun n => lp_all (C := fun (rc : mH → Int32 → Int32 → Option (Unit × mH)) => ∀ (h : mH) (v1_ : Int32) (v2_ : Int32), mY l Θ d M_R_packs 36 [some (.ref f0_), some (.int v1_), some (.int v2_)] [] h (tR vU) (rc h v1_ v2_)) (fun _ _ _ => y_none) (fun rc ih => SB_R_packs_36 hfl hD hK80 rc ih) n
theorem S_R_packs (hfl : HF l Θ) (hD : 6 ≤ d) (h : mH) (a0 : Nat) : mMs l Θ d M_R_packs [.ref a0] h (tR vU) (P_R_packs Θ N h a0) := by
  refine mMs.of hfl (by decide +kernel) rfl (Nat.le_of_ble_eq_true rfl) (loc := [some (.ref a0), none, none]) rfl ?_
  unfold P_R_packs
  refine y_iconst (v := (J 0)) d_R_packs_0 rfl ?_
  refine y_istore_n (loc2 := [some (.ref a0), some (.int (J 0)), none]) d_R_packs_1 (Nat.le_of_ble_eq_true rfl) rfl rfl ?_
  refine S_R_packs_2 hfl hD (fun h8 => ?_) N h (J 0)
  refine y_iconst (v := (J 0)) d_R_packs_32 rfl ?_
  refine y_istore_n (loc2 := [some (.ref a0), some (.int (J 0)), none]) d_R_packs_33 (Nat.le_of_ble_eq_true rfl) rfl rfl ?_
  refine y_iconst (v := (J 0)) d_R_packs_34 rfl ?_
  refine y_istore_n (loc2 := [some (.ref a0), some (.int (J 0)), some (.int (J 0))]) d_R_packs_35 (Nat.le_of_ble_eq_true rfl) rfl rfl ?_
  refine S_R_packs_36 hfl hD (fun h19 => ?_) N h8 (J 0) (J 0)
  exact y_retU d_R_packs_80 rfl
noncomputable def B_R_mostOf_13 (Θ : mW) (N : Nat) (K62 : mH → Int32 → Option (Int32 × mH)) (f0_ : Nat) (f1_ : Int32) (rc : mH → Int32 → Int32 → Option (Int32 × mH)) (h : mH) (v2_ : Int32) (v3_ : Int32) : Option (Int32 × mH) :=
  (bo (rA Θ h 9 f0_ 14) (fun v4 => (bo (aN Θ h v4) (fun v5 => (if v5 ≤ v3_ then (K62 h v2_) else (bo (rA Θ h 9 f0_ 14) (fun v6 => (bo (aR Θ h 1 v6 v3_) (fun v7 => (jn (fun (h9 : mH) (s10 : Int32) => (rc h9 s10 (v3_ + (J 1)))) (fun j8 => (if v7 = 0 then (j8 h v2_) else (jn (fun (h12 : mH) (s13 : Int32) => (j8 h12 (mxI v2_ s13))) (fun j11 => (if f1_ = 0 then (bc (P_IN_bitCount Θ N h v3_) (fun v15 h14 => (j11 h14 v15))) else (gO Θ h 9 f0_ (bc (P_R_metres Θ N h f0_ v3_) (fun v17 h16 => (j11 h16 v17)))))))))))))))))))
noncomputable def P_R_mostOf_13 (Θ : mW) (N : Nat) (K62 : mH → Int32 → Option (Int32 × mH)) (f0_ : Nat) (f1_ : Int32) : Nat → mH → Int32 → Int32 → Option (Int32 × mH) :=
  lp (fun _ _ _ => none) (B_R_mostOf_13 Θ N K62 f0_ f1_)
noncomputable def P_R_mostOf (Θ : mW) (N : Nat) (h : mH) (a0 : Nat) (a1 : Int32) : Option (Int32 × mH) :=
  (bo (wF Θ h 9 a0 13 (.int (J 0))) (fun h1 => (gO Θ h1 9 a0 (bc (P_R_packs Θ N h1 a0) (fun v3 h2 => (P_R_mostOf_13 Θ N (fun h18 u19 => (some (u19, h18))) a0 a1 N h2 (J 0) (J 0)))))))
theorem SB_R_mostOf_13 (hfl : HF l Θ) (hD : 7 ≤ d) {K62 : mH → Int32 → Option (Int32 × mH)} {f0_ : Nat} {f1_ : Int32}  (hK62 : ∀ (h : mH) (v2_ : Int32), mY l Θ d M_R_mostOf 62 [none, none, some (.int v2_), none] [] h (tR vI) (K62 h v2_)) (rc : mH → Int32 → Int32 → Option (Int32 × mH)) (ih : ∀ (h : mH) (v2_ : Int32) (v3_ : Int32), mY l Θ d M_R_mostOf 13 [some (.ref f0_), some (.int f1_), some (.int v2_), some (.int v3_)] [] h (tR vI) (rc h v2_ v3_)) : ∀ (h : mH) (v2_ : Int32) (v3_ : Int32), mY l Θ d M_R_mostOf 13 [some (.ref f0_), some (.int f1_), some (.int v2_), some (.int v3_)] [] h (tR vI) (B_R_mostOf_13 Θ N K62 f0_ f1_ rc h v2_ v3_) := by
  intro h v2_ v3_
  unfold B_R_mostOf_13
  refine y_iload_n d_R_mostOf_13 rfl ?_
  refine y_aload_n d_R_mostOf_14 rfl ?_
  refine y_getA d_R_mostOf_15 f_R_35 (fun v4 => ?_)
  refine y_alen d_R_mostOf_18 (fun v5 => ?_)
  refine y_icmp_ge (tgt := 62) d_R_mostOf_19 (by decide) ?_ ?_
  · exact y_wk (loc2 := [none, none, some (.int v2_), none]) ⟨rfl, trivial⟩ (hK62 h v2_)
  · refine y_aload_n d_R_mostOf_22 rfl ?_
    refine y_getA d_R_mostOf_23 f_R_35 (fun v6 => ?_)
    refine y_iload_n d_R_mostOf_26 rfl ?_
    refine y_zald d_R_mostOf_27 (fun v7 => ?_)
    refine y_jn (C := fun (j9 : mH → Int32 → Option (Int32 × mH)) => ∀ (h9 : mH) (s10 : Int32), mY l Θ d M_R_mostOf 55 [some (.ref f0_), some (.int f1_), none, some (.int v3_)] [.int s10] h9 (tR vI) (j9 h9 s10)) (fun h9 s10 => ?_) (fun j8 Hj8 => ?_)
    · refine y_istore_n (loc2 := [some (.ref f0_), some (.int f1_), some (.int s10), some (.int v3_)]) d_R_mostOf_55 (Nat.le_of_ble_eq_true rfl) rfl rfl ?_
      refine y_iinc (v := (v3_ + (J 1))) (loc2 := [some (.ref f0_), some (.int f1_), some (.int s10), some (.int (v3_ + (J 1)))]) d_R_mostOf_56 rfl rfl (Nat.le_of_ble_eq_true rfl) rfl rfl ?_
      refine y_goto (tgt := 13) d_R_mostOf_59 (by decide) ?_
      exact ih h9 s10 (v3_ + (J 1))
    · refine y_if_eq (tgt := 54) d_R_mostOf_28 (by decide) ?_ ?_
      · refine y_iload_n d_R_mostOf_54 rfl ?_
        exact y_wk (loc2 := [some (.ref f0_), some (.int f1_), none, some (.int v3_)]) ⟨rfl, ⟨rfl, ⟨rfl, trivial⟩⟩⟩ (Hj8 h v2_)
      · refine y_iload_n d_R_mostOf_31 rfl ?_
        refine y_iload_n d_R_mostOf_32 rfl ?_
        refine y_jn (C := fun (j9 : mH → Int32 → Option (Int32 × mH)) => ∀ (h12 : mH) (s13 : Int32), mY l Θ d M_R_mostOf 48 [some (.ref f0_), some (.int f1_), none, some (.int v3_)] [.int s13, .int v2_] h12 (tR vI) (j9 h12 s13)) (fun h12 s13 => ?_) (fun j11 Hj11 => ?_)
        · refine y_mmax d_R_mostOf_48 s_R_71.1 s_R_71.2 k_MA_max.2.2.2.2.2 (mG (2, 152) (by decide +kernel)) (Nat.le_of_ble_eq_true rfl) (Nat.le_trans (Nat.le_of_ble_eq_true rfl) hD) ?_
          refine y_goto (tgt := 55) d_R_mostOf_51 (by decide) ?_
          exact Hj8 h12 (mxI v2_ s13)
        · refine y_if_eq (tgt := 44) d_R_mostOf_33 (by decide) ?_ ?_
          · refine y_iload_n d_R_mostOf_44 rfl ?_
            refine y_cI (c_st (rest := [.int v2_]) d_R_mostOf_45 k_IN_bitCount s_R_207 rfl rfl (Nat.le_of_ble_eq_true rfl) (Nat.le_trans (Nat.le_of_ble_eq_true rfl : 1 + 1 ≤ 7) hD) (S_IN_bitCount hfl (Nat.le_refl _) h v3_)) (fun v15 h14 => ?_)
            exact y_wk (loc2 := [some (.ref f0_), some (.int f1_), none, some (.int v3_)]) ⟨rfl, ⟨rfl, ⟨rfl, trivial⟩⟩⟩ (Hj11 h14 v15)
          · refine y_aload_n d_R_mostOf_36 rfl ?_
            refine y_iload_n d_R_mostOf_37 rfl ?_
            refine y_gO (fun fs1 g1 => y_cI (c_vi (rest := [.int v2_]) d_R_mostOf_38 k_R_metres s_R_197 (Or.inl ⟨_, _, _, g1, rfl, rfl⟩) rfl rfl (Nat.le_of_ble_eq_true rfl) (Nat.le_trans (Nat.le_of_ble_eq_true rfl : 4 + 1 ≤ 7) hD) (S_R_metres hfl (Nat.le_refl _) h f0_ v3_)) (fun v17 h16 => ?_))
            refine y_goto (tgt := 48) d_R_mostOf_41 (by decide) ?_
            exact y_wk (loc2 := [some (.ref f0_), some (.int f1_), none, some (.int v3_)]) ⟨rfl, ⟨rfl, ⟨rfl, trivial⟩⟩⟩ (Hj11 h16 v17)
theorem S_R_mostOf_13 (hfl : HF l Θ) (hD : 7 ≤ d) {K62 : mH → Int32 → Option (Int32 × mH)} {f0_ : Nat} {f1_ : Int32}  (hK62 : ∀ (h : mH) (v2_ : Int32), mY l Θ d M_R_mostOf 62 [none, none, some (.int v2_), none] [] h (tR vI) (K62 h v2_)) : ∀ (n : Nat) (h : mH) (v2_ : Int32) (v3_ : Int32), mY l Θ d M_R_mostOf 13 [some (.ref f0_), some (.int f1_), some (.int v2_), some (.int v3_)] [] h (tR vI) (P_R_mostOf_13 Θ N K62 f0_ f1_ n h v2_ v3_) :=
  fun n => lp_all (C := fun (rc : mH → Int32 → Int32 → Option (Int32 × mH)) => ∀ (h : mH) (v2_ : Int32) (v3_ : Int32), mY l Θ d M_R_mostOf 13 [some (.ref f0_), some (.int f1_), some (.int v2_), some (.int v3_)] [] h (tR vI) (rc h v2_ v3_)) (fun _ _ _ => y_none) (fun rc ih => SB_R_mostOf_13 hfl hD hK62 rc ih) n
theorem S_R_mostOf (hfl : HF l Θ) (hD : 7 ≤ d) (h : mH) (a0 : Nat) (a1 : Int32) : mMs l Θ d M_R_mostOf [.ref a0, .int a1] h (tR vI) (P_R_mostOf Θ N h a0 a1) := by
  refine mMs.of hfl (by decide +kernel) rfl (Nat.le_of_ble_eq_true rfl) (loc := [some (.ref a0), some (.int a1), none, none]) rfl ?_
  unfold P_R_mostOf
  refine y_aload_n d_R_mostOf_0 rfl ?_
  refine y_iconst (v := (J 0)) d_R_mostOf_1 rfl ?_
  refine y_put d_R_mostOf_2 p_R_42 rfl rfl (fun h1 => ?_)
  refine y_aload_n d_R_mostOf_5 rfl ?_
  refine y_gO (fun fs1 g1 => y_cU (c_vi (rest := []) d_R_mostOf_6 k_R_packs s_R_204 (Or.inl ⟨_, _, _, g1, rfl, rfl⟩) rfl rfl (Nat.le_of_ble_eq_true rfl) (Nat.le_trans (Nat.le_of_ble_eq_true rfl : 6 + 1 ≤ 7) hD) (S_R_packs hfl (Nat.le_refl _) h1 a0)) (fun v3 h2 => ?_))
  refine y_iconst (v := (J 0)) d_R_mostOf_9 rfl ?_
  refine y_istore_n (loc2 := [some (.ref a0), some (.int a1), some (.int (J 0)), none]) d_R_mostOf_10 (Nat.le_of_ble_eq_true rfl) rfl rfl ?_
  refine y_iconst (v := (J 0)) d_R_mostOf_11 rfl ?_
  refine y_istore_n (loc2 := [some (.ref a0), some (.int a1), some (.int (J 0)), some (.int (J 0))]) d_R_mostOf_12 (Nat.le_of_ble_eq_true rfl) rfl rfl ?_
  refine S_R_mostOf_13 hfl hD (fun h18 u19 => ?_) N h2 (J 0) (J 0)
  refine y_iload_n d_R_mostOf_62 rfl ?_
  exact y_retI d_R_mostOf_63 rfl rfl
noncomputable def P_R_mostFitting (Θ : mW) (N : Nat) (h : mH) (a0 : Nat) : Option (Int32 × mH) :=
  (gO Θ h 9 a0 (bc (P_R_mostOf Θ N h a0 (J 0)) (fun v2 h1 => (some (v2, h1)))))
theorem S_R_mostFitting (hfl : HF l Θ) (hD : 8 ≤ d) (h : mH) (a0 : Nat) : mMs l Θ d M_R_mostFitting [.ref a0] h (tR vI) (P_R_mostFitting Θ N h a0) := by
  refine mMs.of hfl (by decide +kernel) rfl (Nat.le_of_ble_eq_true rfl) (loc := [some (.ref a0)]) rfl ?_
  unfold P_R_mostFitting
  refine y_aload_n d_R_mostFitting_0 rfl ?_
  refine y_iconst (v := (J 0)) d_R_mostFitting_1 rfl ?_
  refine y_gO (fun fs1 g1 => y_cI (c_vi (rest := []) d_R_mostFitting_2 k_R_mostOf s_R_212 (Or.inl ⟨_, _, _, g1, rfl, rfl⟩) rfl rfl (Nat.le_of_ble_eq_true rfl) (Nat.le_trans (Nat.le_of_ble_eq_true rfl : 7 + 1 ≤ 8) hD) (S_R_mostOf hfl (Nat.le_refl _) h a0 (J 0))) (fun v2 h1 => ?_))
  exact y_retI d_R_mostFitting_5 rfl rfl
noncomputable def P_R_mostFittingByTable (Θ : mW) (N : Nat) (h : mH) (a0 : Nat) : Option (Int32 × mH) :=
  (gO Θ h 9 a0 (bc (P_R_mostOf Θ N h a0 (J 0)) (fun v2 h1 => (some (v2, h1)))))
theorem S_R_mostFittingByTable (hfl : HF l Θ) (hD : 8 ≤ d) (h : mH) (a0 : Nat) : mMs l Θ d M_R_mostFittingByTable [.ref a0] h (tR vI) (P_R_mostFittingByTable Θ N h a0) := by
  refine mMs.of hfl (by decide +kernel) rfl (Nat.le_of_ble_eq_true rfl) (loc := [some (.ref a0)]) rfl ?_
  unfold P_R_mostFittingByTable
  refine y_aload_n d_R_mostFittingByTable_0 rfl ?_
  refine y_iconst (v := (J 0)) d_R_mostFittingByTable_1 rfl ?_
  refine y_gO (fun fs1 g1 => y_cI (c_vi (rest := []) d_R_mostFittingByTable_2 k_R_mostOf s_R_212 (Or.inl ⟨_, _, _, g1, rfl, rfl⟩) rfl rfl (Nat.le_of_ble_eq_true rfl) (Nat.le_trans (Nat.le_of_ble_eq_true rfl : 7 + 1 ≤ 8) hD) (S_R_mostOf hfl (Nat.le_refl _) h a0 (J 0))) (fun v2 h1 => ?_))
  exact y_retI d_R_mostFittingByTable_5 rfl rfl
noncomputable def P_R_mostFittingMetres (Θ : mW) (N : Nat) (h : mH) (a0 : Nat) : Option (Int32 × mH) :=
  (gO Θ h 9 a0 (bc (P_R_mostOf Θ N h a0 (J 1)) (fun v2 h1 => (some (v2, h1)))))
theorem S_R_mostFittingMetres (hfl : HF l Θ) (hD : 8 ≤ d) (h : mH) (a0 : Nat) : mMs l Θ d M_R_mostFittingMetres [.ref a0] h (tR vI) (P_R_mostFittingMetres Θ N h a0) := by
  refine mMs.of hfl (by decide +kernel) rfl (Nat.le_of_ble_eq_true rfl) (loc := [some (.ref a0)]) rfl ?_
  unfold P_R_mostFittingMetres
  refine y_aload_n d_R_mostFittingMetres_0 rfl ?_
  refine y_iconst (v := (J 1)) d_R_mostFittingMetres_1 rfl ?_
  refine y_gO (fun fs1 g1 => y_cI (c_vi (rest := []) d_R_mostFittingMetres_2 k_R_mostOf s_R_212 (Or.inl ⟨_, _, _, g1, rfl, rfl⟩) rfl rfl (Nat.le_of_ble_eq_true rfl) (Nat.le_trans (Nat.le_of_ble_eq_true rfl : 7 + 1 ≤ 8) hD) (S_R_mostOf hfl (Nat.le_refl _) h a0 (J 1))) (fun v2 h1 => ?_))
  exact y_retI d_R_mostFittingMetres_5 rfl rfl
noncomputable def B_R_sum_4 (Θ : mW) (N : Nat) (K29 : mH → Int32 → Option (Int32 × mH)) (f0_ : Nat) (f1_ : Int32) (rc : mH → Int32 → Int32 → Option (Int32 × mH)) (h : mH) (v2_ : Int32) (v3_ : Int32) : Option (Int32 × mH) :=
  (bo (rA Θ h 9 f0_ 0) (fun v1 => (bo (aR Θ h 0 v1 (J 4)) (fun v2 => (if v2 ≤ v3_ then (K29 h v2_) else (gO Θ h 9 f0_ (bc (P_R_of Θ N h f0_ v3_ f1_) (fun v4 h3 => (rc h3 (v2_ + v4) (v3_ + (J 1)))))))))))
noncomputable def P_R_sum_4 (Θ : mW) (N : Nat) (K29 : mH → Int32 → Option (Int32 × mH)) (f0_ : Nat) (f1_ : Int32) : Nat → mH → Int32 → Int32 → Option (Int32 × mH) :=
  lp (fun _ _ _ => none) (B_R_sum_4 Θ N K29 f0_ f1_)
noncomputable def P_R_sum (Θ : mW) (N : Nat) (h : mH) (a0 : Nat) (a1 : Int32) : Option (Int32 × mH) :=
  (P_R_sum_4 Θ N (fun h5 u6 => (some (u6, h5))) a0 a1 N h (J 0) (J 0))
theorem SB_R_sum_4 (hfl : HF l Θ) (hD : 3 ≤ d) {K29 : mH → Int32 → Option (Int32 × mH)} {f0_ : Nat} {f1_ : Int32}  (hK29 : ∀ (h : mH) (v2_ : Int32), mY l Θ d M_R_sum 29 [none, none, some (.int v2_), none] [] h (tR vI) (K29 h v2_)) (rc : mH → Int32 → Int32 → Option (Int32 × mH)) (ih : ∀ (h : mH) (v2_ : Int32) (v3_ : Int32), mY l Θ d M_R_sum 4 [some (.ref f0_), some (.int f1_), some (.int v2_), some (.int v3_)] [] h (tR vI) (rc h v2_ v3_)) : ∀ (h : mH) (v2_ : Int32) (v3_ : Int32), mY l Θ d M_R_sum 4 [some (.ref f0_), some (.int f1_), some (.int v2_), some (.int v3_)] [] h (tR vI) (B_R_sum_4 Θ N K29 f0_ f1_ rc h v2_ v3_) := by
  intro h v2_ v3_
  unfold B_R_sum_4
  refine y_iload_n d_R_sum_4 rfl ?_
  refine y_aload_n d_R_sum_5 rfl ?_
  refine y_getA d_R_sum_6 f_R_9 (fun v1 => ?_)
  refine y_iconst (v := (J 4)) d_R_sum_9 rfl ?_
  refine y_iald d_R_sum_10 (fun v2 => ?_)
  refine y_icmp_ge (tgt := 29) d_R_sum_11 (by decide) ?_ ?_
  · exact y_wk (loc2 := [none, none, some (.int v2_), none]) ⟨rfl, trivial⟩ (hK29 h v2_)
  · refine y_iload_n d_R_sum_14 rfl ?_
    refine y_aload_n d_R_sum_15 rfl ?_
    refine y_iload_n d_R_sum_16 rfl ?_
    refine y_iload_n d_R_sum_17 rfl ?_
    refine y_gO (fun fs1 g1 => y_cI (c_vi (rest := [.int v2_]) d_R_sum_18 k_R_of s_R_67 (Or.inl ⟨_, _, _, g1, rfl, rfl⟩) rfl rfl (Nat.le_of_ble_eq_true rfl) (Nat.le_trans (Nat.le_of_ble_eq_true rfl : 2 + 1 ≤ 3) hD) (S_R_of hfl (Nat.le_refl _) h f0_ v3_ f1_)) (fun v4 h3 => ?_))
    refine y_iadd (v := (v2_ + v4)) d_R_sum_21 rfl ?_
    refine y_istore_n (loc2 := [some (.ref f0_), some (.int f1_), some (.int (v2_ + v4)), some (.int v3_)]) d_R_sum_22 (Nat.le_of_ble_eq_true rfl) rfl rfl ?_
    refine y_iinc (v := (v3_ + (J 1))) (loc2 := [some (.ref f0_), some (.int f1_), some (.int (v2_ + v4)), some (.int (v3_ + (J 1)))]) d_R_sum_23 rfl rfl (Nat.le_of_ble_eq_true rfl) rfl rfl ?_
    refine y_goto (tgt := 4) d_R_sum_26 (by decide) ?_
    exact ih h3 (v2_ + v4) (v3_ + (J 1))
theorem S_R_sum_4 (hfl : HF l Θ) (hD : 3 ≤ d) {K29 : mH → Int32 → Option (Int32 × mH)} {f0_ : Nat} {f1_ : Int32}  (hK29 : ∀ (h : mH) (v2_ : Int32), mY l Θ d M_R_sum 29 [none, none, some (.int v2_), none] [] h (tR vI) (K29 h v2_)) : ∀ (n : Nat) (h : mH) (v2_ : Int32) (v3_ : Int32), mY l Θ d M_R_sum 4 [some (.ref f0_), some (.int f1_), some (.int v2_), some (.int v3_)] [] h (tR vI) (P_R_sum_4 Θ N K29 f0_ f1_ n h v2_ v3_) :=
  fun n => lp_all (C := fun (rc : mH → Int32 → Int32 → Option (Int32 × mH)) => ∀ (h : mH) (v2_ : Int32) (v3_ : Int32), mY l Θ d M_R_sum 4 [some (.ref f0_), some (.int f1_), some (.int v2_), some (.int v3_)] [] h (tR vI) (rc h v2_ v3_)) (fun _ _ _ => y_none) (fun rc ih => SB_R_sum_4 hfl hD hK29 rc ih) n
theorem S_R_sum (hfl : HF l Θ) (hD : 3 ≤ d) (h : mH) (a0 : Nat) (a1 : Int32) : mMs l Θ d M_R_sum [.ref a0, .int a1] h (tR vI) (P_R_sum Θ N h a0 a1) := by
  refine mMs.of hfl (by decide +kernel) rfl (Nat.le_of_ble_eq_true rfl) (loc := [some (.ref a0), some (.int a1), none, none]) rfl ?_
  unfold P_R_sum
  refine y_iconst (v := (J 0)) d_R_sum_0 rfl ?_
  refine y_istore_n (loc2 := [some (.ref a0), some (.int a1), some (.int (J 0)), none]) d_R_sum_1 (Nat.le_of_ble_eq_true rfl) rfl rfl ?_
  refine y_iconst (v := (J 0)) d_R_sum_2 rfl ?_
  refine y_istore_n (loc2 := [some (.ref a0), some (.int a1), some (.int (J 0)), some (.int (J 0))]) d_R_sum_3 (Nat.le_of_ble_eq_true rfl) rfl rfl ?_
  refine S_R_sum_4 hfl hD (fun h5 u6 => ?_) N h (J 0) (J 0)
  refine y_iload_n d_R_sum_29 rfl ?_
  exact y_retI d_R_sum_30 rfl rfl
noncomputable def P_R_billTotal (Θ : mW) (N : Nat) (h : mH) (a0 : Nat) : Option (Int32 × mH) :=
  (bo (wF Θ h 9 a0 13 (.int (J 0))) (fun h1 => (gO Θ h1 9 a0 (bc (P_R_sum Θ N h1 a0 (J 8)) (fun v3 h2 => (some (v3, h2)))))))
theorem S_R_billTotal (hfl : HF l Θ) (hD : 4 ≤ d) (h : mH) (a0 : Nat) : mMs l Θ d M_R_billTotal [.ref a0] h (tR vI) (P_R_billTotal Θ N h a0) := by
  refine mMs.of hfl (by decide +kernel) rfl (Nat.le_of_ble_eq_true rfl) (loc := [some (.ref a0)]) rfl ?_
  unfold P_R_billTotal
  refine y_aload_n d_R_billTotal_0 rfl ?_
  refine y_iconst (v := (J 0)) d_R_billTotal_1 rfl ?_
  refine y_put d_R_billTotal_2 p_R_42 rfl rfl (fun h1 => ?_)
  refine y_aload_n d_R_billTotal_5 rfl ?_
  refine y_bipush (v := (J 8)) d_R_billTotal_6 (by decide +kernel) ?_
  refine y_gO (fun fs1 g1 => y_cI (c_vi (rest := []) d_R_billTotal_8 k_R_sum s_R_216 (Or.inl ⟨_, _, _, g1, rfl, rfl⟩) rfl rfl (Nat.le_of_ble_eq_true rfl) (Nat.le_trans (Nat.le_of_ble_eq_true rfl : 3 + 1 ≤ 4) hD) (S_R_sum hfl (Nat.le_refl _) h1 a0 (J 8))) (fun v3 h2 => ?_))
  exact y_retI d_R_billTotal_11 rfl rfl
noncomputable def P_R_billTotalByAccount (Θ : mW) (N : Nat) (h : mH) (a0 : Nat) : Option (Int32 × mH) :=
  (bo (wF Θ h 9 a0 13 (.int (J 0))) (fun h1 => (bo (rA Θ h1 9 a0 0) (fun v2 => (bo (aR Θ h1 0 v2 (J 6)) (fun v3 => (bo (rA Θ h1 9 a0 0) (fun v4 => (bo (aR Θ h1 0 v4 (J 7)) (fun v5 => (some ((v3 - v5), h1))))))))))))
theorem S_R_billTotalByAccount (hfl : HF l Θ) (hD : 1 ≤ d) (h : mH) (a0 : Nat) : mMs l Θ d M_R_billTotalByAccount [.ref a0] h (tR vI) (P_R_billTotalByAccount Θ N h a0) := by
  refine mMs.of hfl (by decide +kernel) rfl (Nat.le_of_ble_eq_true rfl) (loc := [some (.ref a0)]) rfl ?_
  unfold P_R_billTotalByAccount
  refine y_aload_n d_R_billTotalByAccount_0 rfl ?_
  refine y_iconst (v := (J 0)) d_R_billTotalByAccount_1 rfl ?_
  refine y_put d_R_billTotalByAccount_2 p_R_42 rfl rfl (fun h1 => ?_)
  refine y_aload_n d_R_billTotalByAccount_5 rfl ?_
  refine y_getA d_R_billTotalByAccount_6 f_R_9 (fun v2 => ?_)
  refine y_bipush (v := (J 6)) d_R_billTotalByAccount_9 (by decide +kernel) ?_
  refine y_iald d_R_billTotalByAccount_11 (fun v3 => ?_)
  refine y_aload_n d_R_billTotalByAccount_12 rfl ?_
  refine y_getA d_R_billTotalByAccount_13 f_R_9 (fun v4 => ?_)
  refine y_bipush (v := (J 7)) d_R_billTotalByAccount_16 (by decide +kernel) ?_
  refine y_iald d_R_billTotalByAccount_18 (fun v5 => ?_)
  refine y_isub (v := (v3 - v5)) d_R_billTotalByAccount_19 rfl ?_
  exact y_retI d_R_billTotalByAccount_20 rfl rfl
noncomputable def P_R_paidTotal (Θ : mW) (N : Nat) (h : mH) (a0 : Nat) : Option (Int32 × mH) :=
  (bo (wF Θ h 9 a0 13 (.int (J 0))) (fun h1 => (bo (rA Θ h1 9 a0 0) (fun v2 => (bo (aR Θ h1 0 v2 (J 7)) (fun v3 => (some (v3, h1))))))))
theorem S_R_paidTotal (hfl : HF l Θ) (hD : 1 ≤ d) (h : mH) (a0 : Nat) : mMs l Θ d M_R_paidTotal [.ref a0] h (tR vI) (P_R_paidTotal Θ N h a0) := by
  refine mMs.of hfl (by decide +kernel) rfl (Nat.le_of_ble_eq_true rfl) (loc := [some (.ref a0)]) rfl ?_
  unfold P_R_paidTotal
  refine y_aload_n d_R_paidTotal_0 rfl ?_
  refine y_iconst (v := (J 0)) d_R_paidTotal_1 rfl ?_
  refine y_put d_R_paidTotal_2 p_R_42 rfl rfl (fun h1 => ?_)
  refine y_aload_n d_R_paidTotal_5 rfl ?_
  refine y_getA d_R_paidTotal_6 f_R_9 (fun v2 => ?_)
  refine y_bipush (v := (J 7)) d_R_paidTotal_9 (by decide +kernel) ?_
  refine y_iald d_R_paidTotal_11 (fun v3 => ?_)
  exact y_retI d_R_paidTotal_12 rfl rfl
noncomputable def B_R_shipAtRank_20 (Θ : mW) (N : Nat) (K107 : mH → Int32 → Option (Int32 × mH)) (f0_ : Nat) (f1_ : Int32) (f2_ : Int32) (f3_ : Int32) (rc : mH → Int32 → Int32 → Option (Int32 × mH)) (h : mH) (v4_ : Int32) (v5_ : Int32) : Option (Int32 × mH) :=
  (bo (rA Θ h 9 f0_ 0) (fun v3 => (bo (aR Θ h 0 v3 (J 4)) (fun v4 => (if v4 ≤ v5_ then (K107 h v4_) else (gO Θ h 9 f0_ (bc (P_R_of Θ N h f0_ v5_ (J 8)) (fun v6 h5 => (gO Θ h5 9 f0_ (bc (P_R_of Θ N h5 f0_ f3_ (J 8)) (fun v8 h7 => (gO Θ h7 9 f0_ (bc (P_R_of Θ N h7 f0_ v5_ (J 3)) (fun v10 h9 => (gO Θ h9 9 f0_ (bc (P_R_of Θ N h9 f0_ f3_ (J 3)) (fun v12 h11 => (jn (fun (h14 : mH) (s15 : Int32) => (rc h14 (v4_ + s15) (v5_ + (J 1)))) (fun j13 => (jn (fun (h17 : mH) => (j13 h17 (J 1))) (fun j16 => (if 0 < (v6 - v8) then (j16 h11) else (jn (fun (h19 : mH) => (j13 h19 (J 0))) (fun j18 => (if (v6 - v8) = 0 then (if 0 < (v10 - v12) then (j16 h11) else (if (v10 - v12) = 0 then (if f3_ ≤ v5_ then (j18 h11) else (j16 h11)) else (j18 h11))) else (j18 h11))))))))))))))))))))))))))
noncomputable def P_R_shipAtRank_20 (Θ : mW) (N : Nat) (K107 : mH → Int32 → Option (Int32 × mH)) (f0_ : Nat) (f1_ : Int32) (f2_ : Int32) (f3_ : Int32) : Nat → mH → Int32 → Int32 → Option (Int32 × mH) :=
  lp (fun _ _ _ => none) (B_R_shipAtRank_20 Θ N K107 f0_ f1_ f2_ f3_)
noncomputable def B_R_shipAtRank_4 (Θ : mW) (N : Nat) (K130 : mH → Int32 → Option (Int32 × mH)) (f0_ : Nat) (f1_ : Int32) (rc : mH → Int32 → Int32 → Option (Int32 × mH)) (h : mH) (v2_ : Int32) (v3_ : Int32) : Option (Int32 × mH) :=
  (bo (rA Θ h 9 f0_ 0) (fun v1 => (bo (aR Θ h 0 v1 (J 4)) (fun v2 => (if v2 ≤ v3_ then (K130 h v2_) else (P_R_shipAtRank_20 Θ N (fun h20 u21 => (jn (fun (h23 : mH) (s24 : Int32) => (rc h23 s24 (v3_ + (J 1)))) (fun j22 => (if u21 = f1_ then (gO Θ h20 9 f0_ (bc (P_R_of Θ N h20 f0_ v3_ (J 0)) (fun v26 h25 => (j22 h25 v26)))) else (j22 h20 v2_))))) f0_ f1_ v2_ v3_ N h (J 0) (J 0)))))))
noncomputable def P_R_shipAtRank_4 (Θ : mW) (N : Nat) (K130 : mH → Int32 → Option (Int32 × mH)) (f0_ : Nat) (f1_ : Int32) : Nat → mH → Int32 → Int32 → Option (Int32 × mH) :=
  lp (fun _ _ _ => none) (B_R_shipAtRank_4 Θ N K130 f0_ f1_)
noncomputable def P_R_shipAtRank (Θ : mW) (N : Nat) (h : mH) (a0 : Nat) (a1 : Int32) : Option (Int32 × mH) :=
  (P_R_shipAtRank_4 Θ N (fun h27 u28 => (jn (fun (h30 : mH) (s31 : Int32) => (gO Θ h30 9 a0 (bc (P_R_goes Θ N h30 a0 s31) (fun v33 h32 => (if v33 = 0 then (some ((J 0), h32)) else (some (u28, h32))))))) (fun j29 => (if u28 = (J (-1)) then (j29 h27 (J 0)) else (j29 h27 (J 1)))))) a0 a1 N h (J (-1)) (J 0))
theorem SB_R_shipAtRank_20 (hfl : HF l Θ) (hD : 3 ≤ d) {K107 : mH → Int32 → Option (Int32 × mH)} {f0_ : Nat} {f1_ : Int32} {f2_ : Int32} {f3_ : Int32}  (hK107 : ∀ (h : mH) (v4_ : Int32), mY l Θ d M_R_shipAtRank 107 [some (.ref f0_), some (.int f1_), some (.int f2_), some (.int f3_), some (.int v4_), none, none, none] [] h (tR vI) (K107 h v4_)) (rc : mH → Int32 → Int32 → Option (Int32 × mH)) (ih : ∀ (h : mH) (v4_ : Int32) (v5_ : Int32), mY l Θ d M_R_shipAtRank 20 [some (.ref f0_), some (.int f1_), some (.int f2_), some (.int f3_), some (.int v4_), some (.int v5_), none, none] [] h (tR vI) (rc h v4_ v5_)) : ∀ (h : mH) (v4_ : Int32) (v5_ : Int32), mY l Θ d M_R_shipAtRank 20 [some (.ref f0_), some (.int f1_), some (.int f2_), some (.int f3_), some (.int v4_), some (.int v5_), none, none] [] h (tR vI) (B_R_shipAtRank_20 Θ N K107 f0_ f1_ f2_ f3_ rc h v4_ v5_) := by
  intro h v4_ v5_
  unfold B_R_shipAtRank_20
  refine y_iload d_R_shipAtRank_20 rfl ?_
  refine y_aload_n d_R_shipAtRank_22 rfl ?_
  refine y_getA d_R_shipAtRank_23 f_R_9 (fun v3 => ?_)
  refine y_iconst (v := (J 4)) d_R_shipAtRank_26 rfl ?_
  refine y_iald d_R_shipAtRank_27 (fun v4 => ?_)
  refine y_icmp_ge (tgt := 107) d_R_shipAtRank_28 (by decide) ?_ ?_
  · exact y_wk (loc2 := [some (.ref f0_), some (.int f1_), some (.int f2_), some (.int f3_), some (.int v4_), none, none, none]) ⟨rfl, ⟨rfl, ⟨rfl, ⟨rfl, ⟨rfl, trivial⟩⟩⟩⟩⟩ (hK107 h v4_)
  · refine y_aload_n d_R_shipAtRank_31 rfl ?_
    refine y_iload d_R_shipAtRank_32 rfl ?_
    refine y_bipush (v := (J 8)) d_R_shipAtRank_34 (by decide +kernel) ?_
    refine y_gO (fun fs1 g1 => y_cI (c_vi (rest := []) d_R_shipAtRank_36 k_R_of s_R_67 (Or.inl ⟨_, _, _, g1, rfl, rfl⟩) rfl rfl (Nat.le_of_ble_eq_true rfl) (Nat.le_trans (Nat.le_of_ble_eq_true rfl : 2 + 1 ≤ 3) hD) (S_R_of hfl (Nat.le_refl _) h f0_ v5_ (J 8))) (fun v6 h5 => ?_))
    refine y_aload_n d_R_shipAtRank_39 rfl ?_
    refine y_iload_n d_R_shipAtRank_40 rfl ?_
    refine y_bipush (v := (J 8)) d_R_shipAtRank_41 (by decide +kernel) ?_
    refine y_gO (fun fs1 g1 => y_cI (c_vi (rest := [.int v6]) d_R_shipAtRank_43 k_R_of s_R_67 (Or.inl ⟨_, _, _, g1, rfl, rfl⟩) rfl rfl (Nat.le_of_ble_eq_true rfl) (Nat.le_trans (Nat.le_of_ble_eq_true rfl : 2 + 1 ≤ 3) hD) (S_R_of hfl (Nat.le_refl _) h5 f0_ f3_ (J 8))) (fun v8 h7 => ?_))
    refine y_isub (v := (v6 - v8)) d_R_shipAtRank_46 rfl ?_
    refine y_istore (loc2 := [some (.ref f0_), some (.int f1_), some (.int f2_), some (.int f3_), some (.int v4_), some (.int v5_), some (.int (v6 - v8)), none]) d_R_shipAtRank_47 (Nat.le_of_ble_eq_true rfl) rfl rfl ?_
    refine y_aload_n d_R_shipAtRank_49 rfl ?_
    refine y_iload d_R_shipAtRank_50 rfl ?_
    refine y_iconst (v := (J 3)) d_R_shipAtRank_52 rfl ?_
    refine y_gO (fun fs1 g1 => y_cI (c_vi (rest := []) d_R_shipAtRank_53 k_R_of s_R_67 (Or.inl ⟨_, _, _, g1, rfl, rfl⟩) rfl rfl (Nat.le_of_ble_eq_true rfl) (Nat.le_trans (Nat.le_of_ble_eq_true rfl : 2 + 1 ≤ 3) hD) (S_R_of hfl (Nat.le_refl _) h7 f0_ v5_ (J 3))) (fun v10 h9 => ?_))
    refine y_aload_n d_R_shipAtRank_56 rfl ?_
    refine y_iload_n d_R_shipAtRank_57 rfl ?_
    refine y_iconst (v := (J 3)) d_R_shipAtRank_58 rfl ?_
    refine y_gO (fun fs1 g1 => y_cI (c_vi (rest := [.int v10]) d_R_shipAtRank_59 k_R_of s_R_67 (Or.inl ⟨_, _, _, g1, rfl, rfl⟩) rfl rfl (Nat.le_of_ble_eq_true rfl) (Nat.le_trans (Nat.le_of_ble_eq_true rfl : 2 + 1 ≤ 3) hD) (S_R_of hfl (Nat.le_refl _) h9 f0_ f3_ (J 3))) (fun v12 h11 => ?_))
    refine y_isub (v := (v10 - v12)) d_R_shipAtRank_62 rfl ?_
    refine y_istore (loc2 := [some (.ref f0_), some (.int f1_), some (.int f2_), some (.int f3_), some (.int v4_), some (.int v5_), some (.int (v6 - v8)), some (.int (v10 - v12))]) d_R_shipAtRank_63 (Nat.le_of_ble_eq_true rfl) rfl rfl ?_
    refine y_iload d_R_shipAtRank_65 rfl ?_
    refine y_iload d_R_shipAtRank_67 rfl ?_
    refine y_jn (C := fun (j9 : mH → Int32 → Option (Int32 × mH)) => ∀ (h14 : mH) (s15 : Int32), mY l Θ d M_R_shipAtRank 98 [some (.ref f0_), some (.int f1_), some (.int f2_), some (.int f3_), none, some (.int v5_), none, none] [.int s15, .int v4_] h14 (tR vI) (j9 h14 s15)) (fun h14 s15 => ?_) (fun j13 Hj13 => ?_)
    · refine y_iadd (v := (v4_ + s15)) d_R_shipAtRank_98 rfl ?_
      refine y_istore (loc2 := [some (.ref f0_), some (.int f1_), some (.int f2_), some (.int f3_), some (.int (v4_ + s15)), some (.int v5_), none, none]) d_R_shipAtRank_99 (Nat.le_of_ble_eq_true rfl) rfl rfl ?_
      refine y_iinc (v := (v5_ + (J 1))) (loc2 := [some (.ref f0_), some (.int f1_), some (.int f2_), some (.int f3_), some (.int (v4_ + s15)), some (.int (v5_ + (J 1))), none, none]) d_R_shipAtRank_101 rfl rfl (Nat.le_of_ble_eq_true rfl) rfl rfl ?_
      refine y_goto (tgt := 20) d_R_shipAtRank_104 (by decide) ?_
      exact ih h14 (v4_ + s15) (v5_ + (J 1))
    · refine y_jn (C := fun (j9 : mH → Option (Int32 × mH)) => ∀ (h17 : mH), mY l Θ d M_R_shipAtRank 93 [some (.ref f0_), some (.int f1_), some (.int f2_), some (.int f3_), none, some (.int v5_), none, none] [.int v4_] h17 (tR vI) (j9 h17)) (fun h17 => ?_) (fun j16 Hj16 => ?_)
      · refine y_iconst (v := (J 1)) d_R_shipAtRank_93 rfl ?_
        refine y_goto (tgt := 98) d_R_shipAtRank_94 (by decide) ?_
        exact Hj13 h17 (J 1)
      · refine y_if_gt (tgt := 93) d_R_shipAtRank_69 (by decide) ?_ ?_
        · exact y_wk (loc2 := [some (.ref f0_), some (.int f1_), some (.int f2_), some (.int f3_), none, some (.int v5_), none, none]) ⟨rfl, ⟨rfl, ⟨rfl, ⟨rfl, ⟨rfl, trivial⟩⟩⟩⟩⟩ (Hj16 h11)
        · refine y_iload d_R_shipAtRank_72 rfl ?_
          refine y_jn (C := fun (j9 : mH → Option (Int32 × mH)) => ∀ (h19 : mH), mY l Θ d M_R_shipAtRank 97 [some (.ref f0_), some (.int f1_), some (.int f2_), some (.int f3_), none, some (.int v5_), none, none] [.int v4_] h19 (tR vI) (j9 h19)) (fun h19 => ?_) (fun j18 Hj18 => ?_)
          · refine y_iconst (v := (J 0)) d_R_shipAtRank_97 rfl ?_
            exact Hj13 h19 (J 0)
          · refine y_if_ne (tgt := 97) d_R_shipAtRank_74 (by decide) ?_ ?_
            · exact y_wk (loc2 := [some (.ref f0_), some (.int f1_), some (.int f2_), some (.int f3_), none, some (.int v5_), none, none]) ⟨rfl, ⟨rfl, ⟨rfl, ⟨rfl, ⟨rfl, trivial⟩⟩⟩⟩⟩ (Hj18 h11)
            · refine y_iload d_R_shipAtRank_77 rfl ?_
              refine y_if_gt (tgt := 93) d_R_shipAtRank_79 (by decide) ?_ ?_
              · exact y_wk (loc2 := [some (.ref f0_), some (.int f1_), some (.int f2_), some (.int f3_), none, some (.int v5_), none, none]) ⟨rfl, ⟨rfl, ⟨rfl, ⟨rfl, ⟨rfl, trivial⟩⟩⟩⟩⟩ (Hj16 h11)
              · refine y_iload d_R_shipAtRank_82 rfl ?_
                refine y_if_ne (tgt := 97) d_R_shipAtRank_84 (by decide) ?_ ?_
                · exact y_wk (loc2 := [some (.ref f0_), some (.int f1_), some (.int f2_), some (.int f3_), none, some (.int v5_), none, none]) ⟨rfl, ⟨rfl, ⟨rfl, ⟨rfl, ⟨rfl, trivial⟩⟩⟩⟩⟩ (Hj18 h11)
                · refine y_iload d_R_shipAtRank_87 rfl ?_
                  refine y_iload_n d_R_shipAtRank_89 rfl ?_
                  refine y_icmp_ge (tgt := 97) d_R_shipAtRank_90 (by decide) ?_ ?_
                  · exact y_wk (loc2 := [some (.ref f0_), some (.int f1_), some (.int f2_), some (.int f3_), none, some (.int v5_), none, none]) ⟨rfl, ⟨rfl, ⟨rfl, ⟨rfl, ⟨rfl, trivial⟩⟩⟩⟩⟩ (Hj18 h11)
                  · exact y_wk (loc2 := [some (.ref f0_), some (.int f1_), some (.int f2_), some (.int f3_), none, some (.int v5_), none, none]) ⟨rfl, ⟨rfl, ⟨rfl, ⟨rfl, ⟨rfl, trivial⟩⟩⟩⟩⟩ (Hj16 h11)
theorem S_R_shipAtRank_20 (hfl : HF l Θ) (hD : 3 ≤ d) {K107 : mH → Int32 → Option (Int32 × mH)} {f0_ : Nat} {f1_ : Int32} {f2_ : Int32} {f3_ : Int32}  (hK107 : ∀ (h : mH) (v4_ : Int32), mY l Θ d M_R_shipAtRank 107 [some (.ref f0_), some (.int f1_), some (.int f2_), some (.int f3_), some (.int v4_), none, none, none] [] h (tR vI) (K107 h v4_)) : ∀ (n : Nat) (h : mH) (v4_ : Int32) (v5_ : Int32), mY l Θ d M_R_shipAtRank 20 [some (.ref f0_), some (.int f1_), some (.int f2_), some (.int f3_), some (.int v4_), some (.int v5_), none, none] [] h (tR vI) (P_R_shipAtRank_20 Θ N K107 f0_ f1_ f2_ f3_ n h v4_ v5_) :=
  fun n => lp_all (C := fun (rc : mH → Int32 → Int32 → Option (Int32 × mH)) => ∀ (h : mH) (v4_ : Int32) (v5_ : Int32), mY l Θ d M_R_shipAtRank 20 [some (.ref f0_), some (.int f1_), some (.int f2_), some (.int f3_), some (.int v4_), some (.int v5_), none, none] [] h (tR vI) (rc h v4_ v5_)) (fun _ _ _ => y_none) (fun rc ih => SB_R_shipAtRank_20 hfl hD hK107 rc ih) n
theorem SB_R_shipAtRank_4 (hfl : HF l Θ) (hD : 3 ≤ d) {K130 : mH → Int32 → Option (Int32 × mH)} {f0_ : Nat} {f1_ : Int32}  (hK130 : ∀ (h : mH) (v2_ : Int32), mY l Θ d M_R_shipAtRank 130 [some (.ref f0_), none, some (.int v2_), none, none, none, none, none] [] h (tR vI) (K130 h v2_)) (rc : mH → Int32 → Int32 → Option (Int32 × mH)) (ih : ∀ (h : mH) (v2_ : Int32) (v3_ : Int32), mY l Θ d M_R_shipAtRank 4 [some (.ref f0_), some (.int f1_), some (.int v2_), some (.int v3_), none, none, none, none] [] h (tR vI) (rc h v2_ v3_)) : ∀ (h : mH) (v2_ : Int32) (v3_ : Int32), mY l Θ d M_R_shipAtRank 4 [some (.ref f0_), some (.int f1_), some (.int v2_), some (.int v3_), none, none, none, none] [] h (tR vI) (B_R_shipAtRank_4 Θ N K130 f0_ f1_ rc h v2_ v3_) := by
  intro h v2_ v3_
  unfold B_R_shipAtRank_4
  refine y_iload_n d_R_shipAtRank_4 rfl ?_
  refine y_aload_n d_R_shipAtRank_5 rfl ?_
  refine y_getA d_R_shipAtRank_6 f_R_9 (fun v1 => ?_)
  refine y_iconst (v := (J 4)) d_R_shipAtRank_9 rfl ?_
  refine y_iald d_R_shipAtRank_10 (fun v2 => ?_)
  refine y_icmp_ge (tgt := 130) d_R_shipAtRank_11 (by decide) ?_ ?_
  · exact y_wk (loc2 := [some (.ref f0_), none, some (.int v2_), none, none, none, none, none]) ⟨rfl, ⟨rfl, trivial⟩⟩ (hK130 h v2_)
  · refine y_iconst (v := (J 0)) d_R_shipAtRank_14 rfl ?_
    refine y_istore (loc2 := [some (.ref f0_), some (.int f1_), some (.int v2_), some (.int v3_), some (.int (J 0)), none, none, none]) d_R_shipAtRank_15 (Nat.le_of_ble_eq_true rfl) rfl rfl ?_
    refine y_iconst (v := (J 0)) d_R_shipAtRank_17 rfl ?_
    refine y_istore (loc2 := [some (.ref f0_), some (.int f1_), some (.int v2_), some (.int v3_), some (.int (J 0)), some (.int (J 0)), none, none]) d_R_shipAtRank_18 (Nat.le_of_ble_eq_true rfl) rfl rfl ?_
    refine S_R_shipAtRank_20 hfl hD (fun h20 u21 => ?_) N h (J 0) (J 0)
    refine y_iload d_R_shipAtRank_107 rfl ?_
    refine y_iload_n d_R_shipAtRank_109 rfl ?_
    refine y_jn (C := fun (j9 : mH → Int32 → Option (Int32 × mH)) => ∀ (h23 : mH) (s24 : Int32), mY l Θ d M_R_shipAtRank 123 [some (.ref f0_), some (.int f1_), none, some (.int v3_), none, none, none, none] [.int s24] h23 (tR vI) (j9 h23 s24)) (fun h23 s24 => ?_) (fun j22 Hj22 => ?_)
    · refine y_istore_n (loc2 := [some (.ref f0_), some (.int f1_), some (.int s24), some (.int v3_), none, none, none, none]) d_R_shipAtRank_123 (Nat.le_of_ble_eq_true rfl) rfl rfl ?_
      refine y_iinc (v := (v3_ + (J 1))) (loc2 := [some (.ref f0_), some (.int f1_), some (.int s24), some (.int (v3_ + (J 1))), none, none, none, none]) d_R_shipAtRank_124 rfl rfl (Nat.le_of_ble_eq_true rfl) rfl rfl ?_
      refine y_goto (tgt := 4) d_R_shipAtRank_127 (by decide) ?_
      exact ih h23 s24 (v3_ + (J 1))
    · refine y_icmp_ne (tgt := 122) d_R_shipAtRank_110 (by decide) ?_ ?_
      · refine y_iload_n d_R_shipAtRank_122 rfl ?_
        exact y_wk (loc2 := [some (.ref f0_), some (.int f1_), none, some (.int v3_), none, none, none, none]) ⟨rfl, ⟨rfl, ⟨rfl, trivial⟩⟩⟩ (Hj22 h20 v2_)
      · refine y_aload_n d_R_shipAtRank_113 rfl ?_
        refine y_iload_n d_R_shipAtRank_114 rfl ?_
        refine y_iconst (v := (J 0)) d_R_shipAtRank_115 rfl ?_
        refine y_gO (fun fs1 g1 => y_cI (c_vi (rest := []) d_R_shipAtRank_116 k_R_of s_R_67 (Or.inl ⟨_, _, _, g1, rfl, rfl⟩) rfl rfl (Nat.le_of_ble_eq_true rfl) (Nat.le_trans (Nat.le_of_ble_eq_true rfl : 2 + 1 ≤ 3) hD) (S_R_of hfl (Nat.le_refl _) h20 f0_ v3_ (J 0))) (fun v26 h25 => ?_))
        refine y_goto (tgt := 123) d_R_shipAtRank_119 (by decide) ?_
        exact y_wk (loc2 := [some (.ref f0_), some (.int f1_), none, some (.int v3_), none, none, none, none]) ⟨rfl, ⟨rfl, ⟨rfl, trivial⟩⟩⟩ (Hj22 h25 v26)
theorem S_R_shipAtRank_4 (hfl : HF l Θ) (hD : 3 ≤ d) {K130 : mH → Int32 → Option (Int32 × mH)} {f0_ : Nat} {f1_ : Int32}  (hK130 : ∀ (h : mH) (v2_ : Int32), mY l Θ d M_R_shipAtRank 130 [some (.ref f0_), none, some (.int v2_), none, none, none, none, none] [] h (tR vI) (K130 h v2_)) : ∀ (n : Nat) (h : mH) (v2_ : Int32) (v3_ : Int32), mY l Θ d M_R_shipAtRank 4 [some (.ref f0_), some (.int f1_), some (.int v2_), some (.int v3_), none, none, none, none] [] h (tR vI) (P_R_shipAtRank_4 Θ N K130 f0_ f1_ n h v2_ v3_) :=
  fun n => lp_all (C := fun (rc : mH → Int32 → Int32 → Option (Int32 × mH)) => ∀ (h : mH) (v2_ : Int32) (v3_ : Int32), mY l Θ d M_R_shipAtRank 4 [some (.ref f0_), some (.int f1_), some (.int v2_), some (.int v3_), none, none, none, none] [] h (tR vI) (rc h v2_ v3_)) (fun _ _ _ => y_none) (fun rc ih => SB_R_shipAtRank_4 hfl hD hK130 rc ih) n
theorem S_R_shipAtRank (hfl : HF l Θ) (hD : 3 ≤ d) (h : mH) (a0 : Nat) (a1 : Int32) : mMs l Θ d M_R_shipAtRank [.ref a0, .int a1] h (tR vI) (P_R_shipAtRank Θ N h a0 a1) := by
  refine mMs.of hfl (by decide +kernel) rfl (Nat.le_of_ble_eq_true rfl) (loc := [some (.ref a0), some (.int a1), none, none, none, none, none, none]) rfl ?_
  unfold P_R_shipAtRank
  refine y_iconst (v := (J (-1))) d_R_shipAtRank_0 rfl ?_
  refine y_istore_n (loc2 := [some (.ref a0), some (.int a1), some (.int (J (-1))), none, none, none, none, none]) d_R_shipAtRank_1 (Nat.le_of_ble_eq_true rfl) rfl rfl ?_
  refine y_iconst (v := (J 0)) d_R_shipAtRank_2 rfl ?_
  refine y_istore_n (loc2 := [some (.ref a0), some (.int a1), some (.int (J (-1))), some (.int (J 0)), none, none, none, none]) d_R_shipAtRank_3 (Nat.le_of_ble_eq_true rfl) rfl rfl ?_
  refine S_R_shipAtRank_4 hfl hD (fun h27 u28 => ?_) N h (J (-1)) (J 0)
  refine y_aload_n d_R_shipAtRank_130 rfl ?_
  refine y_iload_n d_R_shipAtRank_131 rfl ?_
  refine y_iconst (v := (J (-1))) d_R_shipAtRank_132 rfl ?_
  refine y_jn (C := fun (j9 : mH → Int32 → Option (Int32 × mH)) => ∀ (h30 : mH) (s31 : Int32), mY l Θ d M_R_shipAtRank 141 [none, none, some (.int u28), none, none, none, none, none] [.int s31, .ref a0] h30 (tR vI) (j9 h30 s31)) (fun h30 s31 => ?_) (fun j29 Hj29 => ?_)
  · refine y_gO (fun fs1 g1 => y_cI (c_vi (rest := []) d_R_shipAtRank_141 k_R_goes s_R_59 (Or.inl ⟨_, _, _, g1, rfl, rfl⟩) rfl rfl (Nat.le_of_ble_eq_true rfl) (Nat.le_trans (Nat.le_of_ble_eq_true rfl : 2 + 1 ≤ 3) hD) (S_R_goes hfl (Nat.le_refl _) h30 a0 s31)) (fun v33 h32 => ?_))
    refine y_if_eq (tgt := 151) d_R_shipAtRank_144 (by decide) ?_ ?_
    · refine y_iconst (v := (J 0)) d_R_shipAtRank_151 rfl ?_
      exact y_retI d_R_shipAtRank_152 rfl rfl
    · refine y_iload_n d_R_shipAtRank_147 rfl ?_
      refine y_goto (tgt := 152) d_R_shipAtRank_148 (by decide) ?_
      exact y_retI d_R_shipAtRank_152 rfl rfl
  · refine y_icmp_eq (tgt := 140) d_R_shipAtRank_133 (by decide) ?_ ?_
    · refine y_iconst (v := (J 0)) d_R_shipAtRank_140 rfl ?_
      exact y_wk (loc2 := [none, none, some (.int u28), none, none, none, none, none]) ⟨rfl, trivial⟩ (Hj29 h27 (J 0))
    · refine y_iconst (v := (J 1)) d_R_shipAtRank_136 rfl ?_
      refine y_goto (tgt := 141) d_R_shipAtRank_137 (by decide) ?_
      exact y_wk (loc2 := [none, none, some (.int u28), none, none, none, none, none]) ⟨rfl, trivial⟩ (Hj29 h27 (J 1))
noncomputable def P_R_meanDirt (Θ : mW) (N : Nat) (h : mH) (a0 : Nat) : Option (UInt64 × mH) :=
  (bo (rA Θ h 9 a0 0) (fun v1 => (bo (aR Θ h 0 v1 (J 4)) (fun v2 => (jn (fun (h4 : mH) (s5 : Int32) => (gO Θ h4 9 a0 (bc (P_R_goes Θ N h4 a0 s5) (fun v7 h6 => (if v7 = 0 then (some (0, h6)) else (gO Θ h6 9 a0 (bc (P_R_sum Θ N h6 a0 (J 3)) (fun v9 h8 => (bo (rA Θ h8 9 a0 0) (fun v10 => (bo (aR Θ h8 0 v10 (J 4)) (fun v11 => (if (FP.ddiv (FP.i2d v9) (FP.i2d v11)) &&& 0x7fffffffffffffff ≤ 0x7ff0000000000000 then (some ((FP.ddiv (FP.i2d v9) (FP.i2d v11)), h8)) else none))))))))))))) (fun j3 => (if v2 ≤ 0 then (j3 h (J 0)) else (j3 h (J 1)))))))))
theorem S_R_meanDirt (hfl : HF l Θ) (hD : 4 ≤ d) (h : mH) (a0 : Nat) : mMs l Θ d M_R_meanDirt [.ref a0] h (tR vD) (P_R_meanDirt Θ N h a0) := by
  refine mMs.of hfl (by decide +kernel) rfl (Nat.le_of_ble_eq_true rfl) (loc := [some (.ref a0)]) rfl ?_
  unfold P_R_meanDirt
  refine y_aload_n d_R_meanDirt_0 rfl ?_
  refine y_aload_n d_R_meanDirt_1 rfl ?_
  refine y_getA d_R_meanDirt_2 f_R_9 (fun v1 => ?_)
  refine y_iconst (v := (J 4)) d_R_meanDirt_5 rfl ?_
  refine y_iald d_R_meanDirt_6 (fun v2 => ?_)
  refine y_jn (C := fun (j9 : mH → Int32 → Option (UInt64 × mH)) => ∀ (h4 : mH) (s5 : Int32), mY l Θ d M_R_meanDirt 15 [some (.ref a0)] [.int s5, .ref a0] h4 (tR vD) (j9 h4 s5)) (fun h4 s5 => ?_) (fun j3 Hj3 => ?_)
  · refine y_gO (fun fs1 g1 => y_cI (c_vi (rest := []) d_R_meanDirt_15 k_R_goes s_R_59 (Or.inl ⟨_, _, _, g1, rfl, rfl⟩) rfl rfl (Nat.le_of_ble_eq_true rfl) (Nat.le_trans (Nat.le_of_ble_eq_true rfl : 2 + 1 ≤ 4) hD) (S_R_goes hfl (Nat.le_refl _) h4 a0 s5)) (fun v7 h6 => ?_))
    refine y_if_eq (tgt := 38) d_R_meanDirt_18 (by decide) ?_ ?_
    · refine y_dconst0 d_R_meanDirt_38 ?_
      exact y_retD d_R_meanDirt_39 rfl
    · refine y_aload_n d_R_meanDirt_21 rfl ?_
      refine y_iconst (v := (J 3)) d_R_meanDirt_22 rfl ?_
      refine y_gO (fun fs1 g1 => y_cI (c_vi (rest := []) d_R_meanDirt_23 k_R_sum s_R_216 (Or.inl ⟨_, _, _, g1, rfl, rfl⟩) rfl rfl (Nat.le_of_ble_eq_true rfl) (Nat.le_trans (Nat.le_of_ble_eq_true rfl : 3 + 1 ≤ 4) hD) (S_R_sum hfl (Nat.le_refl _) h6 a0 (J 3))) (fun v9 h8 => ?_))
      refine y_i2d d_R_meanDirt_26 ?_
      refine y_aload_n d_R_meanDirt_27 rfl ?_
      refine y_getA d_R_meanDirt_28 f_R_9 (fun v10 => ?_)
      refine y_iconst (v := (J 4)) d_R_meanDirt_31 rfl ?_
      refine y_iald d_R_meanDirt_32 (fun v11 => ?_)
      refine y_i2d d_R_meanDirt_33 ?_
      refine y_gd (fun hn => y_ddiv d_R_meanDirt_34 hn ?_)
      refine y_goto (tgt := 39) d_R_meanDirt_35 (by decide) ?_
      exact y_retD d_R_meanDirt_39 rfl
  · refine y_if_le (tgt := 14) d_R_meanDirt_7 (by decide) ?_ ?_
    · refine y_iconst (v := (J 0)) d_R_meanDirt_14 rfl ?_
      exact Hj3 h (J 0)
    · refine y_iconst (v := (J 1)) d_R_meanDirt_10 rfl ?_
      refine y_goto (tgt := 15) d_R_meanDirt_11 (by decide) ?_
      exact Hj3 h (J 1)
noncomputable def P_R_takenShare (Θ : mW) (N : Nat) (h : mH) (a0 : Nat) : Option (UInt32 × mH) :=
  (bo (wF Θ h 9 a0 13 (.int (J 0))) (fun h1 => (gO Θ h1 9 a0 (bc (P_R_freeOnes Θ N h1 a0) (fun v3 h2 => (if (FP.fdiv (FP.i2f ((J 60) - v3)) (1114636288 : UInt32)) &&& 0x7fffffff ≤ 0x7f800000 then (some ((FP.fdiv (FP.i2f ((J 60) - v3)) (1114636288 : UInt32)), h2)) else none))))))
theorem S_R_takenShare (hfl : HF l Θ) (hD : 6 ≤ d) (h : mH) (a0 : Nat) : mMs l Θ d M_R_takenShare [.ref a0] h (tR vF) (P_R_takenShare Θ N h a0) := by
  refine mMs.of hfl (by decide +kernel) rfl (Nat.le_of_ble_eq_true rfl) (loc := [some (.ref a0)]) rfl ?_
  unfold P_R_takenShare
  refine y_aload_n d_R_takenShare_0 rfl ?_
  refine y_iconst (v := (J 0)) d_R_takenShare_1 rfl ?_
  refine y_put d_R_takenShare_2 p_R_42 rfl rfl (fun h1 => ?_)
  refine y_bipush (v := (J 60)) d_R_takenShare_5 (by decide +kernel) ?_
  refine y_aload_n d_R_takenShare_7 rfl ?_
  refine y_gO (fun fs1 g1 => y_cI (c_vi (rest := [.int (J 60)]) d_R_takenShare_8 k_R_freeOnes s_R_194 (Or.inl ⟨_, _, _, g1, rfl, rfl⟩) rfl rfl (Nat.le_of_ble_eq_true rfl) (Nat.le_trans (Nat.le_of_ble_eq_true rfl : 5 + 1 ≤ 6) hD) (S_R_freeOnes hfl (Nat.le_refl _) h1 a0)) (fun v3 h2 => ?_))
  refine y_isub (v := ((J 60) - v3)) d_R_takenShare_11 rfl ?_
  refine y_i2f d_R_takenShare_12 ?_
  refine y_ldcf d_R_takenShare_13 l_R_219 ?_
  refine y_gd (fun hn => y_fdiv d_R_takenShare_15 hn ?_)
  exact y_retF d_R_takenShare_16 rfl
noncomputable def P_R_isConsistent (Θ : mW) (N : Nat) (h : mH) (a0 : Nat) : Option (Int32 × mH) :=
  (bo (wF Θ h 9 a0 13 (.int (J 0))) (fun h1 => (some ((J 1), h1))))
theorem S_R_isConsistent (hfl : HF l Θ) (hD : 1 ≤ d) (h : mH) (a0 : Nat) : mMs l Θ d M_R_isConsistent [.ref a0] h (tR vI) (P_R_isConsistent Θ N h a0) := by
  refine mMs.of hfl (by decide +kernel) rfl (Nat.le_of_ble_eq_true rfl) (loc := [some (.ref a0)]) rfl ?_
  unfold P_R_isConsistent
  refine y_aload_n d_R_isConsistent_0 rfl ?_
  refine y_iconst (v := (J 0)) d_R_isConsistent_1 rfl ?_
  refine y_put d_R_isConsistent_2 p_R_42 rfl rfl (fun h1 => ?_)
  refine y_iconst (v := (J 1)) d_R_isConsistent_5 rfl ?_
  exact y_retI d_R_isConsistent_6 rfl (by decide +kernel)
noncomputable def B_R_describeDock_7 (Θ : mW) (N : Nat) (K66 : mH → Option (Int32 × mH)) (f0_ : Nat) (rc : mH → Int32 → Option (Int32 × mH)) (h : mH) (v1_ : Int32) : Option (Int32 × mH) :=
  (if (J 60) ≤ v1_ then (K66 h) else (gO Θ h 9 f0_ (bc (P_R_at Θ N h f0_ v1_) (fun v3 h2 => (bo (rA Θ h2 9 f0_ 11) (fun v4 => (jn (fun (h6 : mH) (s7 : Int32) => (bo (aW Θ h6 0 v4 v1_ s7) (fun h8 => (rc h8 (v1_ + (J 1)))))) (fun j5 => (if v3 = (J (-1)) then (gO Θ h2 9 f0_ (bc (P_R_isBlock Θ N h2 f0_ v1_) (fun v10 h9 => (if v10 = 0 then (j5 h9 (J 46)) else (j5 h9 (J 94)))))) else (gO Θ h2 9 f0_ (bc (P_R_of Θ N h2 f0_ v3 (J 0)) (fun v12 h11 => (j5 h11 ((J 48) + (v12 - v12 / (J 10) * (J 10))))))))))))))))
noncomputable def P_R_describeDock_7 (Θ : mW) (N : Nat) (K66 : mH → Option (Int32 × mH)) (f0_ : Nat) : Nat → mH → Int32 → Option (Int32 × mH) :=
  lp (fun _ _ => none) (B_R_describeDock_7 Θ N K66 f0_)
noncomputable def P_R_describeDock (Θ : mW) (N : Nat) (h : mH) (a0 : Nat) : Option (Int32 × mH) :=
  (bo (wF Θ h 9 a0 13 (.int (J 0))) (fun h1 => (P_R_describeDock_7 Θ N (fun h13 => (bo (wF Θ h13 9 a0 12 (.int (J 60))) (fun h14 => (some ((J 60), h14))))) a0 N h1 (J 0))))
theorem SB_R_describeDock_7 (hfl : HF l Θ) (hD : 5 ≤ d) {K66 : mH → Option (Int32 × mH)} {f0_ : Nat}  (hK66 : ∀ (h : mH), mY l Θ d M_R_describeDock 66 [some (.ref f0_), none, none] [] h (tR vI) (K66 h)) (rc : mH → Int32 → Option (Int32 × mH)) (ih : ∀ (h : mH) (v1_ : Int32), mY l Θ d M_R_describeDock 7 [some (.ref f0_), some (.int v1_), none] [] h (tR vI) (rc h v1_)) : ∀ (h : mH) (v1_ : Int32), mY l Θ d M_R_describeDock 7 [some (.ref f0_), some (.int v1_), none] [] h (tR vI) (B_R_describeDock_7 Θ N K66 f0_ rc h v1_) := by
  intro h v1_
  unfold B_R_describeDock_7
  refine y_iload_n d_R_describeDock_7 rfl ?_
  refine y_bipush (v := (J 60)) d_R_describeDock_8 (by decide +kernel) ?_
  refine y_icmp_ge (tgt := 66) d_R_describeDock_10 (by decide) ?_ ?_
  · exact y_wk (loc2 := [some (.ref f0_), none, none]) ⟨rfl, trivial⟩ (hK66 h)
  · refine y_aload_n d_R_describeDock_13 rfl ?_
    refine y_iload_n d_R_describeDock_14 rfl ?_
    refine y_gO (fun fs1 g1 => y_cI (c_vi (rest := []) d_R_describeDock_15 k_R_at s_R_87 (Or.inl ⟨_, _, _, g1, rfl, rfl⟩) rfl rfl (Nat.le_of_ble_eq_true rfl) (Nat.le_trans (Nat.le_of_ble_eq_true rfl : 4 + 1 ≤ 5) hD) (S_R_at hfl (Nat.le_refl _) h f0_ v1_)) (fun v3 h2 => ?_))
    refine y_istore_n (loc2 := [some (.ref f0_), some (.int v1_), some (.int v3)]) d_R_describeDock_18 (Nat.le_of_ble_eq_true rfl) rfl rfl ?_
    refine y_aload_n d_R_describeDock_19 rfl ?_
    refine y_getA d_R_describeDock_20 f_R_32 (fun v4 => ?_)
    refine y_iload_n d_R_describeDock_23 rfl ?_
    refine y_iload_n d_R_describeDock_24 rfl ?_
    refine y_iconst (v := (J (-1))) d_R_describeDock_25 rfl ?_
    refine y_jn (C := fun (j9 : mH → Int32 → Option (Int32 × mH)) => ∀ (h6 : mH) (s7 : Int32), mY l Θ d M_R_describeDock 59 [some (.ref f0_), some (.int v1_), none] [.int s7, .int v1_, .ref v4] h6 (tR vI) (j9 h6 s7)) (fun h6 s7 => ?_) (fun j5 Hj5 => ?_)
    · refine y_iast d_R_describeDock_59 (fun h8 => ?_)
      refine y_iinc (v := (v1_ + (J 1))) (loc2 := [some (.ref f0_), some (.int (v1_ + (J 1))), none]) d_R_describeDock_60 rfl rfl (Nat.le_of_ble_eq_true rfl) rfl rfl ?_
      refine y_goto (tgt := 7) d_R_describeDock_63 (by decide) ?_
      exact ih h8 (v1_ + (J 1))
    · refine y_icmp_eq (tgt := 44) d_R_describeDock_26 (by decide) ?_ ?_
      · refine y_aload_n d_R_describeDock_44 rfl ?_
        refine y_iload_n d_R_describeDock_45 rfl ?_
        refine y_gO (fun fs1 g1 => y_cI (c_vi (rest := [.int v1_, .ref v4]) d_R_describeDock_46 k_R_isBlock s_R_155 (Or.inl ⟨_, _, _, g1, rfl, rfl⟩) rfl rfl (Nat.le_of_ble_eq_true rfl) (Nat.le_trans (Nat.le_of_ble_eq_true rfl : 3 + 1 ≤ 5) hD) (S_R_isBlock hfl (Nat.le_refl _) h2 f0_ v1_)) (fun v10 h9 => ?_))
        refine y_if_eq (tgt := 57) d_R_describeDock_49 (by decide) ?_ ?_
        · refine y_bipush (v := (J 46)) d_R_describeDock_57 (by decide +kernel) ?_
          exact y_wk (loc2 := [some (.ref f0_), some (.int v1_), none]) ⟨rfl, ⟨rfl, trivial⟩⟩ (Hj5 h9 (J 46))
        · refine y_bipush (v := (J 94)) d_R_describeDock_52 (by decide +kernel) ?_
          refine y_goto (tgt := 59) d_R_describeDock_54 (by decide) ?_
          exact y_wk (loc2 := [some (.ref f0_), some (.int v1_), none]) ⟨rfl, ⟨rfl, trivial⟩⟩ (Hj5 h9 (J 94))
      · refine y_bipush (v := (J 48)) d_R_describeDock_29 (by decide +kernel) ?_
        refine y_aload_n d_R_describeDock_31 rfl ?_
        refine y_iload_n d_R_describeDock_32 rfl ?_
        refine y_iconst (v := (J 0)) d_R_describeDock_33 rfl ?_
        refine y_gO (fun fs1 g1 => y_cI (c_vi (rest := [.int (J 48), .int v1_, .ref v4]) d_R_describeDock_34 k_R_of s_R_67 (Or.inl ⟨_, _, _, g1, rfl, rfl⟩) rfl rfl (Nat.le_of_ble_eq_true rfl) (Nat.le_trans (Nat.le_of_ble_eq_true rfl : 2 + 1 ≤ 5) hD) (S_R_of hfl (Nat.le_refl _) h2 f0_ v3 (J 0))) (fun v12 h11 => ?_))
        refine y_bipush (v := (J 10)) d_R_describeDock_37 (by decide +kernel) ?_
        refine y_irem (v := (v12 - v12 / (J 10) * (J 10))) d_R_describeDock_39 (by decide +kernel) rfl ?_
        refine y_iadd (v := ((J 48) + (v12 - v12 / (J 10) * (J 10)))) d_R_describeDock_40 rfl ?_
        refine y_goto (tgt := 59) d_R_describeDock_41 (by decide) ?_
        exact y_wk (loc2 := [some (.ref f0_), some (.int v1_), none]) ⟨rfl, ⟨rfl, trivial⟩⟩ (Hj5 h11 ((J 48) + (v12 - v12 / (J 10) * (J 10))))
theorem S_R_describeDock_7 (hfl : HF l Θ) (hD : 5 ≤ d) {K66 : mH → Option (Int32 × mH)} {f0_ : Nat}  (hK66 : ∀ (h : mH), mY l Θ d M_R_describeDock 66 [some (.ref f0_), none, none] [] h (tR vI) (K66 h)) : ∀ (n : Nat) (h : mH) (v1_ : Int32), mY l Θ d M_R_describeDock 7 [some (.ref f0_), some (.int v1_), none] [] h (tR vI) (P_R_describeDock_7 Θ N K66 f0_ n h v1_) :=
  fun n => lp_all (C := fun (rc : mH → Int32 → Option (Int32 × mH)) => ∀ (h : mH) (v1_ : Int32), mY l Θ d M_R_describeDock 7 [some (.ref f0_), some (.int v1_), none] [] h (tR vI) (rc h v1_)) (fun _ _ => y_none) (fun rc ih => SB_R_describeDock_7 hfl hD hK66 rc ih) n
theorem S_R_describeDock (hfl : HF l Θ) (hD : 5 ≤ d) (h : mH) (a0 : Nat) : mMs l Θ d M_R_describeDock [.ref a0] h (tR vI) (P_R_describeDock Θ N h a0) := by
  refine mMs.of hfl (by decide +kernel) rfl (Nat.le_of_ble_eq_true rfl) (loc := [some (.ref a0), none, none]) rfl ?_
  unfold P_R_describeDock
  refine y_aload_n d_R_describeDock_0 rfl ?_
  refine y_iconst (v := (J 0)) d_R_describeDock_1 rfl ?_
  refine y_put d_R_describeDock_2 p_R_42 rfl rfl (fun h1 => ?_)
  refine y_iconst (v := (J 0)) d_R_describeDock_5 rfl ?_
  refine y_istore_n (loc2 := [some (.ref a0), some (.int (J 0)), none]) d_R_describeDock_6 (Nat.le_of_ble_eq_true rfl) rfl rfl ?_
  refine S_R_describeDock_7 hfl hD (fun h13 => ?_) N h1 (J 0)
  refine y_aload_n d_R_describeDock_66 rfl ?_
  refine y_bipush (v := (J 60)) d_R_describeDock_67 (by decide +kernel) ?_
  refine y_put d_R_describeDock_69 p_R_223 rfl rfl (fun h14 => ?_)
  refine y_bipush (v := (J 60)) d_R_describeDock_72 (by decide +kernel) ?_
  exact y_retI d_R_describeDock_74 rfl rfl
noncomputable def P_R_put (Θ : mW) (N : Nat) (h : mH) (a0 : Nat) (a1 : Int32) (a2 : Int32) : Option (Int32 × mH) :=
  (bo (rA Θ h 9 a0 11) (fun v1 => (bo (aW Θ h 0 v1 a1 a2) (fun h2 => (some ((a1 + (J 1)), h2))))))
theorem S_R_put (hfl : HF l Θ) (hD : 1 ≤ d) (h : mH) (a0 : Nat) (a1 : Int32) (a2 : Int32) : mMs l Θ d M_R_put [.ref a0, .int a1, .int a2] h (tR vI) (P_R_put Θ N h a0 a1 a2) := by
  refine mMs.of hfl (by decide +kernel) rfl (Nat.le_of_ble_eq_true rfl) (loc := [some (.ref a0), some (.int a1), some (.int a2)]) rfl ?_
  unfold P_R_put
  refine y_aload_n d_R_put_0 rfl ?_
  refine y_getA d_R_put_1 f_R_32 (fun v1 => ?_)
  refine y_iload_n d_R_put_4 rfl ?_
  refine y_iload_n d_R_put_5 rfl ?_
  refine y_iast d_R_put_6 (fun h2 => ?_)
  refine y_iload_n d_R_put_7 rfl ?_
  refine y_iconst (v := (J 1)) d_R_put_8 rfl ?_
  refine y_iadd (v := (a1 + (J 1))) d_R_put_9 rfl ?_
  exact y_retI d_R_put_10 rfl rfl
noncomputable def B_R_writesNumber_5 (Θ : mW) (N : Nat) (K24 : mH → Int32 → Option (Int32 × mH)) (f0_ : Nat) (f2_ : Int32) (f3_ : Int32) (rc : mH → Int32 → Option (Int32 × mH)) (h : mH) (v4_ : Int32) : Option (Int32 × mH) :=
  (if v4_ = 0 then none else (if (f2_ / v4_) ≤ (J 9) then (K24 h v4_) else (rc h (v4_ * (J 10)))))
noncomputable def P_R_writesNumber_5 (Θ : mW) (N : Nat) (K24 : mH → Int32 → Option (Int32 × mH)) (f0_ : Nat) (f2_ : Int32) (f3_ : Int32) : Nat → mH → Int32 → Option (Int32 × mH) :=
  lp (fun _ _ => none) (B_R_writesNumber_5 Θ N K24 f0_ f2_ f3_)
noncomputable def B_R_writesNumber_28 (Θ : mW) (N : Nat) (K59 : mH → Int32 → Option (Int32 × mH)) (f0_ : Nat) (f2_ : Int32) (rc : mH → Int32 → Int32 → Option (Int32 × mH)) (h : mH) (v3_ : Int32) (v5_ : Int32) : Option (Int32 × mH) :=
  (if v5_ ≤ 0 then (K59 h v3_) else (if v5_ = 0 then none else (gO Θ h 9 f0_ (bc (P_R_put Θ N h f0_ v3_ ((J 48) + ((f2_ / v5_) - (f2_ / v5_) / (J 10) * (J 10)))) (fun v4 h3 => (rc h3 v4 (v5_ / (J 10))))))))
noncomputable def P_R_writesNumber_28 (Θ : mW) (N : Nat) (K59 : mH → Int32 → Option (Int32 × mH)) (f0_ : Nat) (f2_ : Int32) : Nat → mH → Int32 → Int32 → Option (Int32 × mH) :=
  lp (fun _ _ _ => none) (B_R_writesNumber_28 Θ N K59 f0_ f2_)
noncomputable def P_R_writesNumber (Θ : mW) (N : Nat) (h : mH) (a0 : Nat) (a1 : Int32) (a2 : Int32) : Option (Int32 × mH) :=
  (P_R_writesNumber_5 Θ N (fun h1 u2 => (P_R_writesNumber_28 Θ N (fun h5 u6 => (some (u6, h5))) a0 a2 N h1 a1 u2)) a0 a2 a1 N h (J 1))
theorem SB_R_writesNumber_5 (hfl : HF l Θ) (hD : 2 ≤ d) {K24 : mH → Int32 → Option (Int32 × mH)} {f0_ : Nat} {f2_ : Int32} {f3_ : Int32}  (hK24 : ∀ (h : mH) (v4_ : Int32), mY l Θ d M_R_writesNumber 24 [some (.ref f0_), none, some (.int f2_), some (.int f3_), some (.int v4_), none] [] h (tR vI) (K24 h v4_)) (rc : mH → Int32 → Option (Int32 × mH)) (ih : ∀ (h : mH) (v4_ : Int32), mY l Θ d M_R_writesNumber 5 [some (.ref f0_), none, some (.int f2_), some (.int f3_), some (.int v4_), none] [] h (tR vI) (rc h v4_)) : ∀ (h : mH) (v4_ : Int32), mY l Θ d M_R_writesNumber 5 [some (.ref f0_), none, some (.int f2_), some (.int f3_), some (.int v4_), none] [] h (tR vI) (B_R_writesNumber_5 Θ N K24 f0_ f2_ f3_ rc h v4_) := by
  intro h v4_
  unfold B_R_writesNumber_5
  refine y_iload_n d_R_writesNumber_5 rfl ?_
  refine y_iload d_R_writesNumber_6 rfl ?_
  refine y_gn (fun hn => y_idiv (v := (f2_ / v4_)) d_R_writesNumber_8 hn rfl ?_)
  refine y_bipush (v := (J 9)) d_R_writesNumber_9 (by decide +kernel) ?_
  refine y_icmp_le (tgt := 24) d_R_writesNumber_11 (by decide) ?_ ?_
  · exact hK24 h v4_
  · refine y_iload d_R_writesNumber_14 rfl ?_
    refine y_bipush (v := (J 10)) d_R_writesNumber_16 (by decide +kernel) ?_
    refine y_imul (v := (v4_ * (J 10))) d_R_writesNumber_18 rfl ?_
    refine y_istore (loc2 := [some (.ref f0_), none, some (.int f2_), some (.int f3_), some (.int (v4_ * (J 10))), none]) d_R_writesNumber_19 (Nat.le_of_ble_eq_true rfl) rfl rfl ?_
    refine y_goto (tgt := 5) d_R_writesNumber_21 (by decide) ?_
    exact ih h (v4_ * (J 10))
theorem S_R_writesNumber_5 (hfl : HF l Θ) (hD : 2 ≤ d) {K24 : mH → Int32 → Option (Int32 × mH)} {f0_ : Nat} {f2_ : Int32} {f3_ : Int32}  (hK24 : ∀ (h : mH) (v4_ : Int32), mY l Θ d M_R_writesNumber 24 [some (.ref f0_), none, some (.int f2_), some (.int f3_), some (.int v4_), none] [] h (tR vI) (K24 h v4_)) : ∀ (n : Nat) (h : mH) (v4_ : Int32), mY l Θ d M_R_writesNumber 5 [some (.ref f0_), none, some (.int f2_), some (.int f3_), some (.int v4_), none] [] h (tR vI) (P_R_writesNumber_5 Θ N K24 f0_ f2_ f3_ n h v4_) :=
  fun n => lp_all (C := fun (rc : mH → Int32 → Option (Int32 × mH)) => ∀ (h : mH) (v4_ : Int32), mY l Θ d M_R_writesNumber 5 [some (.ref f0_), none, some (.int f2_), some (.int f3_), some (.int v4_), none] [] h (tR vI) (rc h v4_)) (fun _ _ => y_none) (fun rc ih => SB_R_writesNumber_5 hfl hD hK24 rc ih) n
theorem SB_R_writesNumber_28 (hfl : HF l Θ) (hD : 2 ≤ d) {K59 : mH → Int32 → Option (Int32 × mH)} {f0_ : Nat} {f2_ : Int32}  (hK59 : ∀ (h : mH) (v3_ : Int32), mY l Θ d M_R_writesNumber 59 [none, none, none, some (.int v3_), none, none] [] h (tR vI) (K59 h v3_)) (rc : mH → Int32 → Int32 → Option (Int32 × mH)) (ih : ∀ (h : mH) (v3_ : Int32) (v5_ : Int32), mY l Θ d M_R_writesNumber 28 [some (.ref f0_), none, some (.int f2_), some (.int v3_), none, some (.int v5_)] [] h (tR vI) (rc h v3_ v5_)) : ∀ (h : mH) (v3_ : Int32) (v5_ : Int32), mY l Θ d M_R_writesNumber 28 [some (.ref f0_), none, some (.int f2_), some (.int v3_), none, some (.int v5_)] [] h (tR vI) (B_R_writesNumber_28 Θ N K59 f0_ f2_ rc h v3_ v5_) := by
  intro h v3_ v5_
  unfold B_R_writesNumber_28
  refine y_iload d_R_writesNumber_28 rfl ?_
  refine y_if_le (tgt := 59) d_R_writesNumber_30 (by decide) ?_ ?_
  · exact y_wk (loc2 := [none, none, none, some (.int v3_), none, none]) ⟨rfl, trivial⟩ (hK59 h v3_)
  · refine y_aload_n d_R_writesNumber_33 rfl ?_
    refine y_iload_n d_R_writesNumber_34 rfl ?_
    refine y_bipush (v := (J 48)) d_R_writesNumber_35 (by decide +kernel) ?_
    refine y_iload_n d_R_writesNumber_37 rfl ?_
    refine y_iload d_R_writesNumber_38 rfl ?_
    refine y_gn (fun hn => y_idiv (v := (f2_ / v5_)) d_R_writesNumber_40 hn rfl ?_)
    refine y_bipush (v := (J 10)) d_R_writesNumber_41 (by decide +kernel) ?_
    refine y_irem (v := ((f2_ / v5_) - (f2_ / v5_) / (J 10) * (J 10))) d_R_writesNumber_43 (by decide +kernel) rfl ?_
    refine y_iadd (v := ((J 48) + ((f2_ / v5_) - (f2_ / v5_) / (J 10) * (J 10)))) d_R_writesNumber_44 rfl ?_
    refine y_gO (fun fs1 g1 => y_cI (c_vi (rest := []) d_R_writesNumber_45 k_R_put s_R_220 (Or.inl ⟨_, _, _, g1, rfl, rfl⟩) rfl rfl (Nat.le_of_ble_eq_true rfl) (Nat.le_trans (Nat.le_of_ble_eq_true rfl : 1 + 1 ≤ 2) hD) (S_R_put hfl (Nat.le_refl _) h f0_ v3_ ((J 48) + ((f2_ / v5_) - (f2_ / v5_) / (J 10) * (J 10))))) (fun v4 h3 => ?_))
    refine y_istore_n (loc2 := [some (.ref f0_), none, some (.int f2_), some (.int v4), none, some (.int v5_)]) d_R_writesNumber_48 (Nat.le_of_ble_eq_true rfl) rfl rfl ?_
    refine y_iload d_R_writesNumber_49 rfl ?_
    refine y_bipush (v := (J 10)) d_R_writesNumber_51 (by decide +kernel) ?_
    refine y_idiv (v := (v5_ / (J 10))) d_R_writesNumber_53 (by decide +kernel) rfl ?_
    refine y_istore (loc2 := [some (.ref f0_), none, some (.int f2_), some (.int v4), none, some (.int (v5_ / (J 10)))]) d_R_writesNumber_54 (Nat.le_of_ble_eq_true rfl) rfl rfl ?_
    refine y_goto (tgt := 28) d_R_writesNumber_56 (by decide) ?_
    exact ih h3 v4 (v5_ / (J 10))
theorem S_R_writesNumber_28 (hfl : HF l Θ) (hD : 2 ≤ d) {K59 : mH → Int32 → Option (Int32 × mH)} {f0_ : Nat} {f2_ : Int32}  (hK59 : ∀ (h : mH) (v3_ : Int32), mY l Θ d M_R_writesNumber 59 [none, none, none, some (.int v3_), none, none] [] h (tR vI) (K59 h v3_)) : ∀ (n : Nat) (h : mH) (v3_ : Int32) (v5_ : Int32), mY l Θ d M_R_writesNumber 28 [some (.ref f0_), none, some (.int f2_), some (.int v3_), none, some (.int v5_)] [] h (tR vI) (P_R_writesNumber_28 Θ N K59 f0_ f2_ n h v3_ v5_) :=
  fun n => lp_all (C := fun (rc : mH → Int32 → Int32 → Option (Int32 × mH)) => ∀ (h : mH) (v3_ : Int32) (v5_ : Int32), mY l Θ d M_R_writesNumber 28 [some (.ref f0_), none, some (.int f2_), some (.int v3_), none, some (.int v5_)] [] h (tR vI) (rc h v3_ v5_)) (fun _ _ _ => y_none) (fun rc ih => SB_R_writesNumber_28 hfl hD hK59 rc ih) n
theorem S_R_writesNumber (hfl : HF l Θ) (hD : 2 ≤ d) (h : mH) (a0 : Nat) (a1 : Int32) (a2 : Int32) : mMs l Θ d M_R_writesNumber [.ref a0, .int a1, .int a2] h (tR vI) (P_R_writesNumber Θ N h a0 a1 a2) := by
  refine mMs.of hfl (by decide +kernel) rfl (Nat.le_of_ble_eq_true rfl) (loc := [some (.ref a0), some (.int a1), some (.int a2), none, none, none]) rfl ?_
  unfold P_R_writesNumber
  refine y_iload_n d_R_writesNumber_0 rfl ?_
  refine y_istore_n (loc2 := [some (.ref a0), some (.int a1), some (.int a2), some (.int a1), none, none]) d_R_writesNumber_1 (Nat.le_of_ble_eq_true rfl) rfl rfl ?_
  refine y_iconst (v := (J 1)) d_R_writesNumber_2 rfl ?_
  refine y_istore (loc2 := [some (.ref a0), some (.int a1), some (.int a2), some (.int a1), some (.int (J 1)), none]) d_R_writesNumber_3 (Nat.le_of_ble_eq_true rfl) rfl rfl ?_
  refine y_wk (loc2 := [some (.ref a0), none, some (.int a2), some (.int a1), some (.int (J 1)), none]) ⟨rfl, ⟨rfl, ⟨rfl, ⟨rfl, trivial⟩⟩⟩⟩ ?_
  refine S_R_writesNumber_5 hfl hD (fun h1 u2 => ?_) N h (J 1)
  refine y_iload d_R_writesNumber_24 rfl ?_
  refine y_istore (loc2 := [some (.ref a0), none, some (.int a2), some (.int a1), some (.int u2), some (.int u2)]) d_R_writesNumber_26 (Nat.le_of_ble_eq_true rfl) rfl rfl ?_
  refine y_wk (loc2 := [some (.ref a0), none, some (.int a2), some (.int a1), none, some (.int u2)]) ⟨rfl, ⟨rfl, ⟨rfl, ⟨rfl, trivial⟩⟩⟩⟩ ?_
  refine S_R_writesNumber_28 hfl hD (fun h5 u6 => ?_) N h1 a1 u2
  refine y_iload_n d_R_writesNumber_59 rfl ?_
  exact y_retI d_R_writesNumber_60 rfl rfl
noncomputable def P_R_describeBill (Θ : mW) (N : Nat) (h : mH) (a0 : Nat) (a1 : Int32) : Option (Int32 × mH) :=
  (gO Θ h 9 a0 (bc (P_R_find Θ N h a0 a1) (fun v2 h1 => (jn (fun (h4 : mH) (s5 : Int32) => (gO Θ h4 9 a0 (bc (P_R_goes Θ N h4 a0 s5) (fun v7 h6 => (if v7 = 0 then (some ((J 0), h6)) else (gO Θ h6 9 a0 (bc (P_R_put Θ N h6 a0 (J 0) (J 35)) (fun v9 h8 => (gO Θ h8 9 a0 (bc (P_R_writesNumber Θ N h8 a0 v9 a1) (fun v11 h10 => (gO Θ h10 9 a0 (bc (P_R_put Θ N h10 a0 v11 (J 58)) (fun v13 h12 => (gO Θ h12 9 a0 (bc (P_R_of Θ N h12 a0 v2 (J 8)) (fun v15 h14 => (gO Θ h14 9 a0 (bc (P_R_writesNumber Θ N h14 a0 v13 v15) (fun v17 h16 => (gO Θ h16 9 a0 (bc (P_R_put Θ N h16 a0 v17 (J 47)) (fun v19 h18 => (gO Θ h18 9 a0 (bc (P_R_of Θ N h18 a0 v2 (J 3)) (fun v21 h20 => (gO Θ h20 9 a0 (bc (P_R_writesNumber Θ N h20 a0 v19 v21) (fun v23 h22 => (gO Θ h22 9 a0 (bc (P_R_of Θ N h22 a0 v2 (J 6)) (fun v25 h24 => (jn (fun (h27 : mH) (s28 : Int32) => (gO Θ h27 9 a0 (bc (P_R_isDocked Θ N h27 a0 v2) (fun v30 h29 => (if v30 = 0 then (bo (wF Θ h29 9 a0 12 (.int s28)) (fun h31 => (bo (rI Θ h31 9 a0 12) (fun v32 => (some (v32, h31)))))) else (gO Θ h29 9 a0 (bc (P_R_floats Θ N h29 a0 v2) (fun v34 h33 => (jn (fun (h36 : mH) (s37 : Int32) => (gO Θ h36 9 a0 (bc (P_R_put Θ N h36 a0 s28 s37) (fun v39 h38 => (bo (wF Θ h38 9 a0 12 (.int v39)) (fun h40 => (bo (rI Θ h40 9 a0 12) (fun v41 => (some (v41, h40)))))))))) (fun j35 => (if v34 = 0 then (j35 h33 (J 95)) else (j35 h33 (J 126))))))))))))) (fun j26 => (if v25 = 0 then (j26 h24 v23) else (gO Θ h24 9 a0 (bc (P_R_put Θ N h24 a0 v23 (J 33)) (fun v43 h42 => (gO Θ h42 9 a0 (bc (P_R_of Θ N h42 a0 v2 (J 6)) (fun v45 h44 => (gO Θ h44 9 a0 (bc (P_R_writesNumber Θ N h44 a0 v43 v45) (fun v47 h46 => (j26 h46 v47))))))))))))))))))))))))))))))))))))))))))))) (fun j3 => (if v2 = (J (-1)) then (j3 h1 (J 0)) else (j3 h1 (J 1))))))))
theorem S_R_describeBill (hfl : HF l Θ) (hD : 5 ≤ d) (h : mH) (a0 : Nat) (a1 : Int32) : mMs l Θ d M_R_describeBill [.ref a0, .int a1] h (tR vI) (P_R_describeBill Θ N h a0 a1) := by
  refine mMs.of hfl (by decide +kernel) rfl (Nat.le_of_ble_eq_true rfl) (loc := [some (.ref a0), some (.int a1), none, none]) rfl ?_
  unfold P_R_describeBill
  refine y_aload_n d_R_describeBill_0 rfl ?_
  refine y_iload_n d_R_describeBill_1 rfl ?_
  refine y_gO (fun fs1 g1 => y_cI (c_vi (rest := []) d_R_describeBill_2 k_R_find s_R_104 (Or.inl ⟨_, _, _, g1, rfl, rfl⟩) rfl rfl (Nat.le_of_ble_eq_true rfl) (Nat.le_trans (Nat.le_of_ble_eq_true rfl : 3 + 1 ≤ 5) hD) (S_R_find hfl (Nat.le_refl _) h a0 a1)) (fun v2 h1 => ?_))
  refine y_istore_n (loc2 := [some (.ref a0), some (.int a1), some (.int v2), none]) d_R_describeBill_5 (Nat.le_of_ble_eq_true rfl) rfl rfl ?_
  refine y_aload_n d_R_describeBill_6 rfl ?_
  refine y_iload_n d_R_describeBill_7 rfl ?_
  refine y_iconst (v := (J (-1))) d_R_describeBill_8 rfl ?_
  refine y_jn (C := fun (j9 : mH → Int32 → Option (Int32 × mH)) => ∀ (h4 : mH) (s5 : Int32), mY l Θ d M_R_describeBill 17 [some (.ref a0), some (.int a1), some (.int v2), none] [.int s5, .ref a0] h4 (tR vI) (j9 h4 s5)) (fun h4 s5 => ?_) (fun j3 Hj3 => ?_)
  · refine y_gO (fun fs1 g1 => y_cI (c_vi (rest := []) d_R_describeBill_17 k_R_goes s_R_59 (Or.inl ⟨_, _, _, g1, rfl, rfl⟩) rfl rfl (Nat.le_of_ble_eq_true rfl) (Nat.le_trans (Nat.le_of_ble_eq_true rfl : 2 + 1 ≤ 5) hD) (S_R_goes hfl (Nat.le_refl _) h4 a0 s5)) (fun v7 h6 => ?_))
    refine y_if_ne (tgt := 25) d_R_describeBill_20 (by decide) ?_ ?_
    · refine y_aload_n d_R_describeBill_25 rfl ?_
      refine y_aload_n d_R_describeBill_26 rfl ?_
      refine y_aload_n d_R_describeBill_27 rfl ?_
      refine y_aload_n d_R_describeBill_28 rfl ?_
      refine y_iconst (v := (J 0)) d_R_describeBill_29 rfl ?_
      refine y_bipush (v := (J 35)) d_R_describeBill_30 (by decide +kernel) ?_
      refine y_gO (fun fs1 g1 => y_cI (c_vi (rest := [.ref a0, .ref a0, .ref a0]) d_R_describeBill_32 k_R_put s_R_220 (Or.inl ⟨_, _, _, g1, rfl, rfl⟩) rfl rfl (Nat.le_of_ble_eq_true rfl) (Nat.le_trans (Nat.le_of_ble_eq_true rfl : 1 + 1 ≤ 5) hD) (S_R_put hfl (Nat.le_refl _) h6 a0 (J 0) (J 35))) (fun v9 h8 => ?_))
      refine y_iload_n d_R_describeBill_35 rfl ?_
      refine y_gO (fun fs1 g1 => y_cI (c_vi (rest := [.ref a0, .ref a0]) d_R_describeBill_36 k_R_writesNumber s_R_226 (Or.inl ⟨_, _, _, g1, rfl, rfl⟩) rfl rfl (Nat.le_of_ble_eq_true rfl) (Nat.le_trans (Nat.le_of_ble_eq_true rfl : 2 + 1 ≤ 5) hD) (S_R_writesNumber hfl (Nat.le_refl _) h8 a0 v9 a1)) (fun v11 h10 => ?_))
      refine y_bipush (v := (J 58)) d_R_describeBill_39 (by decide +kernel) ?_
      refine y_gO (fun fs1 g1 => y_cI (c_vi (rest := [.ref a0]) d_R_describeBill_41 k_R_put s_R_220 (Or.inl ⟨_, _, _, g1, rfl, rfl⟩) rfl rfl (Nat.le_of_ble_eq_true rfl) (Nat.le_trans (Nat.le_of_ble_eq_true rfl : 1 + 1 ≤ 5) hD) (S_R_put hfl (Nat.le_refl _) h10 a0 v11 (J 58))) (fun v13 h12 => ?_))
      refine y_aload_n d_R_describeBill_44 rfl ?_
      refine y_iload_n d_R_describeBill_45 rfl ?_
      refine y_bipush (v := (J 8)) d_R_describeBill_46 (by decide +kernel) ?_
      refine y_gO (fun fs1 g1 => y_cI (c_vi (rest := [.int v13, .ref a0]) d_R_describeBill_48 k_R_of s_R_67 (Or.inl ⟨_, _, _, g1, rfl, rfl⟩) rfl rfl (Nat.le_of_ble_eq_true rfl) (Nat.le_trans (Nat.le_of_ble_eq_true rfl : 2 + 1 ≤ 5) hD) (S_R_of hfl (Nat.le_refl _) h12 a0 v2 (J 8))) (fun v15 h14 => ?_))
      refine y_gO (fun fs1 g1 => y_cI (c_vi (rest := []) d_R_describeBill_51 k_R_writesNumber s_R_226 (Or.inl ⟨_, _, _, g1, rfl, rfl⟩) rfl rfl (Nat.le_of_ble_eq_true rfl) (Nat.le_trans (Nat.le_of_ble_eq_true rfl : 2 + 1 ≤ 5) hD) (S_R_writesNumber hfl (Nat.le_refl _) h14 a0 v13 v15)) (fun v17 h16 => ?_))
      refine y_istore_n (loc2 := [some (.ref a0), some (.int a1), some (.int v2), some (.int v17)]) d_R_describeBill_54 (Nat.le_of_ble_eq_true rfl) rfl rfl ?_
      refine y_aload_n d_R_describeBill_55 rfl ?_
      refine y_aload_n d_R_describeBill_56 rfl ?_
      refine y_iload_n d_R_describeBill_57 rfl ?_
      refine y_bipush (v := (J 47)) d_R_describeBill_58 (by decide +kernel) ?_
      refine y_gO (fun fs1 g1 => y_cI (c_vi (rest := [.ref a0]) d_R_describeBill_60 k_R_put s_R_220 (Or.inl ⟨_, _, _, g1, rfl, rfl⟩) rfl rfl (Nat.le_of_ble_eq_true rfl) (Nat.le_trans (Nat.le_of_ble_eq_true rfl : 1 + 1 ≤ 5) hD) (S_R_put hfl (Nat.le_refl _) h16 a0 v17 (J 47))) (fun v19 h18 => ?_))
      refine y_aload_n d_R_describeBill_63 rfl ?_
      refine y_iload_n d_R_describeBill_64 rfl ?_
      refine y_iconst (v := (J 3)) d_R_describeBill_65 rfl ?_
      refine y_gO (fun fs1 g1 => y_cI (c_vi (rest := [.int v19, .ref a0]) d_R_describeBill_66 k_R_of s_R_67 (Or.inl ⟨_, _, _, g1, rfl, rfl⟩) rfl rfl (Nat.le_of_ble_eq_true rfl) (Nat.le_trans (Nat.le_of_ble_eq_true rfl : 2 + 1 ≤ 5) hD) (S_R_of hfl (Nat.le_refl _) h18 a0 v2 (J 3))) (fun v21 h20 => ?_))
      refine y_gO (fun fs1 g1 => y_cI (c_vi (rest := []) d_R_describeBill_69 k_R_writesNumber s_R_226 (Or.inl ⟨_, _, _, g1, rfl, rfl⟩) rfl rfl (Nat.le_of_ble_eq_true rfl) (Nat.le_trans (Nat.le_of_ble_eq_true rfl : 2 + 1 ≤ 5) hD) (S_R_writesNumber hfl (Nat.le_refl _) h20 a0 v19 v21)) (fun v23 h22 => ?_))
      refine y_istore_n (loc2 := [some (.ref a0), some (.int a1), some (.int v2), some (.int v23)]) d_R_describeBill_72 (Nat.le_of_ble_eq_true rfl) rfl rfl ?_
      refine y_aload_n d_R_describeBill_73 rfl ?_
      refine y_iload_n d_R_describeBill_74 rfl ?_
      refine y_bipush (v := (J 6)) d_R_describeBill_75 (by decide +kernel) ?_
      refine y_gO (fun fs1 g1 => y_cI (c_vi (rest := []) d_R_describeBill_77 k_R_of s_R_67 (Or.inl ⟨_, _, _, g1, rfl, rfl⟩) rfl rfl (Nat.le_of_ble_eq_true rfl) (Nat.le_trans (Nat.le_of_ble_eq_true rfl : 2 + 1 ≤ 5) hD) (S_R_of hfl (Nat.le_refl _) h22 a0 v2 (J 6))) (fun v25 h24 => ?_))
      refine y_jn (C := fun (j9 : mH → Int32 → Option (Int32 × mH)) => ∀ (h27 : mH) (s28 : Int32), mY l Θ d M_R_describeBill 105 [some (.ref a0), none, some (.int v2), none] [.int s28] h27 (tR vI) (j9 h27 s28)) (fun h27 s28 => ?_) (fun j26 Hj26 => ?_)
      · refine y_istore_n (loc2 := [some (.ref a0), none, some (.int v2), some (.int s28)]) d_R_describeBill_105 (Nat.le_of_ble_eq_true rfl) rfl rfl ?_
        refine y_aload_n d_R_describeBill_106 rfl ?_
        refine y_aload_n d_R_describeBill_107 rfl ?_
        refine y_iload_n d_R_describeBill_108 rfl ?_
        refine y_gO (fun fs1 g1 => y_cI (c_vi (rest := [.ref a0]) d_R_describeBill_109 k_R_isDocked s_R_79 (Or.inl ⟨_, _, _, g1, rfl, rfl⟩) rfl rfl (Nat.le_of_ble_eq_true rfl) (Nat.le_trans (Nat.le_of_ble_eq_true rfl : 3 + 1 ≤ 5) hD) (S_R_isDocked hfl (Nat.le_refl _) h27 a0 v2)) (fun v30 h29 => ?_))
        refine y_if_eq (tgt := 138) d_R_describeBill_112 (by decide) ?_ ?_
        · refine y_iload_n d_R_describeBill_138 rfl ?_
          refine y_put d_R_describeBill_139 p_R_223 rfl rfl (fun h31 => ?_)
          refine y_aload_n d_R_describeBill_142 rfl ?_
          refine y_getI d_R_describeBill_143 f_R_223 (fun v32 => ?_)
          exact y_retI d_R_describeBill_146 rfl rfl
        · refine y_aload_n d_R_describeBill_115 rfl ?_
          refine y_iload_n d_R_describeBill_116 rfl ?_
          refine y_aload_n d_R_describeBill_117 rfl ?_
          refine y_iload_n d_R_describeBill_118 rfl ?_
          refine y_gO (fun fs1 g1 => y_cI (c_vi (rest := [.int s28, .ref a0, .ref a0]) d_R_describeBill_119 k_R_floats s_R_128 (Or.inl ⟨_, _, _, g1, rfl, rfl⟩) rfl rfl (Nat.le_of_ble_eq_true rfl) (Nat.le_trans (Nat.le_of_ble_eq_true rfl : 4 + 1 ≤ 5) hD) (S_R_floats hfl (Nat.le_refl _) h29 a0 v2)) (fun v34 h33 => ?_))
          refine y_jn (C := fun (j9 : mH → Int32 → Option (Int32 × mH)) => ∀ (h36 : mH) (s37 : Int32), mY l Θ d M_R_describeBill 132 [some (.ref a0), none, none, none] [.int s37, .int s28, .ref a0, .ref a0] h36 (tR vI) (j9 h36 s37)) (fun h36 s37 => ?_) (fun j35 Hj35 => ?_)
          · refine y_gO (fun fs1 g1 => y_cI (c_vi (rest := [.ref a0]) d_R_describeBill_132 k_R_put s_R_220 (Or.inl ⟨_, _, _, g1, rfl, rfl⟩) rfl rfl (Nat.le_of_ble_eq_true rfl) (Nat.le_trans (Nat.le_of_ble_eq_true rfl : 1 + 1 ≤ 5) hD) (S_R_put hfl (Nat.le_refl _) h36 a0 s28 s37)) (fun v39 h38 => ?_))
            refine y_goto (tgt := 139) d_R_describeBill_135 (by decide) ?_
            refine y_put d_R_describeBill_139 p_R_223 rfl rfl (fun h40 => ?_)
            refine y_aload_n d_R_describeBill_142 rfl ?_
            refine y_getI d_R_describeBill_143 f_R_223 (fun v41 => ?_)
            exact y_retI d_R_describeBill_146 rfl rfl
          · refine y_if_eq (tgt := 130) d_R_describeBill_122 (by decide) ?_ ?_
            · refine y_bipush (v := (J 95)) d_R_describeBill_130 (by decide +kernel) ?_
              exact y_wk (loc2 := [some (.ref a0), none, none, none]) ⟨rfl, trivial⟩ (Hj35 h33 (J 95))
            · refine y_bipush (v := (J 126)) d_R_describeBill_125 (by decide +kernel) ?_
              refine y_goto (tgt := 132) d_R_describeBill_127 (by decide) ?_
              exact y_wk (loc2 := [some (.ref a0), none, none, none]) ⟨rfl, trivial⟩ (Hj35 h33 (J 126))
      · refine y_if_ne (tgt := 87) d_R_describeBill_80 (by decide) ?_ ?_
        · refine y_aload_n d_R_describeBill_87 rfl ?_
          refine y_aload_n d_R_describeBill_88 rfl ?_
          refine y_iload_n d_R_describeBill_89 rfl ?_
          refine y_bipush (v := (J 33)) d_R_describeBill_90 (by decide +kernel) ?_
          refine y_gO (fun fs1 g1 => y_cI (c_vi (rest := [.ref a0]) d_R_describeBill_92 k_R_put s_R_220 (Or.inl ⟨_, _, _, g1, rfl, rfl⟩) rfl rfl (Nat.le_of_ble_eq_true rfl) (Nat.le_trans (Nat.le_of_ble_eq_true rfl : 1 + 1 ≤ 5) hD) (S_R_put hfl (Nat.le_refl _) h24 a0 v23 (J 33))) (fun v43 h42 => ?_))
          refine y_aload_n d_R_describeBill_95 rfl ?_
          refine y_iload_n d_R_describeBill_96 rfl ?_
          refine y_bipush (v := (J 6)) d_R_describeBill_97 (by decide +kernel) ?_
          refine y_gO (fun fs1 g1 => y_cI (c_vi (rest := [.int v43, .ref a0]) d_R_describeBill_99 k_R_of s_R_67 (Or.inl ⟨_, _, _, g1, rfl, rfl⟩) rfl rfl (Nat.le_of_ble_eq_true rfl) (Nat.le_trans (Nat.le_of_ble_eq_true rfl : 2 + 1 ≤ 5) hD) (S_R_of hfl (Nat.le_refl _) h42 a0 v2 (J 6))) (fun v45 h44 => ?_))
          refine y_gO (fun fs1 g1 => y_cI (c_vi (rest := []) d_R_describeBill_102 k_R_writesNumber s_R_226 (Or.inl ⟨_, _, _, g1, rfl, rfl⟩) rfl rfl (Nat.le_of_ble_eq_true rfl) (Nat.le_trans (Nat.le_of_ble_eq_true rfl : 2 + 1 ≤ 5) hD) (S_R_writesNumber hfl (Nat.le_refl _) h44 a0 v43 v45)) (fun v47 h46 => ?_))
          exact y_wk (loc2 := [some (.ref a0), none, some (.int v2), none]) ⟨rfl, ⟨rfl, trivial⟩⟩ (Hj26 h46 v47)
        · refine y_iload_n d_R_describeBill_83 rfl ?_
          refine y_goto (tgt := 105) d_R_describeBill_84 (by decide) ?_
          exact y_wk (loc2 := [some (.ref a0), none, some (.int v2), none]) ⟨rfl, ⟨rfl, trivial⟩⟩ (Hj26 h24 v23)
    · refine y_iconst (v := (J 0)) d_R_describeBill_23 rfl ?_
      exact y_retI d_R_describeBill_24 rfl rfl
  · refine y_icmp_eq (tgt := 16) d_R_describeBill_9 (by decide) ?_ ?_
    · refine y_iconst (v := (J 0)) d_R_describeBill_16 rfl ?_
      exact Hj3 h1 (J 0)
    · refine y_iconst (v := (J 1)) d_R_describeBill_12 rfl ?_
      refine y_goto (tgt := 17) d_R_describeBill_13 (by decide) ?_
      exact Hj3 h1 (J 1)
noncomputable def P_R_lineAt (Θ : mW) (N : Nat) (h : mH) (a0 : Nat) (a1 : Int32) : Option (Int32 × mH) :=
  (bo (rI Θ h 9 a0 12) (fun v1 => (bc (P_R_isIn Θ N h a1 (J 0) (v1 - (J 1))) (fun v3 h2 => (gO Θ h2 9 a0 (bc (P_R_goes Θ N h2 a0 v3) (fun v5 h4 => (if v5 = 0 then (if 0 ≤ (J 0) ∧ (J 0) ≤ 65535 then some ((J 0), h4) else none) else (bo (rA Θ h4 9 a0 11) (fun v6 => (bo (aR Θ h4 0 v6 a1) (fun v7 => (if 0 ≤ (((v7).toUInt32 % 65536).toInt32) ∧ (((v7).toUInt32 % 65536).toInt32) ≤ 65535 then some ((((v7).toUInt32 % 65536).toInt32), h4) else none)))))))))))))
theorem S_R_lineAt (hfl : HF l Θ) (hD : 3 ≤ d) (h : mH) (a0 : Nat) (a1 : Int32) : mMs l Θ d M_R_lineAt [.ref a0, .int a1] h (tR vI) (P_R_lineAt Θ N h a0 a1) := by
  refine mMs.of hfl (by decide +kernel) rfl (Nat.le_of_ble_eq_true rfl) (loc := [some (.ref a0), some (.int a1)]) rfl ?_
  unfold P_R_lineAt
  refine y_aload_n d_R_lineAt_0 rfl ?_
  refine y_iload_n d_R_lineAt_1 rfl ?_
  refine y_iconst (v := (J 0)) d_R_lineAt_2 rfl ?_
  refine y_aload_n d_R_lineAt_3 rfl ?_
  refine y_getI d_R_lineAt_4 f_R_223 (fun v1 => ?_)
  refine y_iconst (v := (J 1)) d_R_lineAt_7 rfl ?_
  refine y_isub (v := (v1 - (J 1))) d_R_lineAt_8 rfl ?_
  refine y_cI (c_st (rest := [.ref a0]) d_R_lineAt_9 k_R_isIn s_R_83 rfl rfl (Nat.le_of_ble_eq_true rfl) (Nat.le_trans (Nat.le_of_ble_eq_true rfl : 1 + 1 ≤ 3) hD) (S_R_isIn hfl (Nat.le_refl _) h a1 (J 0) (v1 - (J 1)))) (fun v3 h2 => ?_)
  refine y_gO (fun fs1 g1 => y_cI (c_vi (rest := []) d_R_lineAt_12 k_R_goes s_R_59 (Or.inl ⟨_, _, _, g1, rfl, rfl⟩) rfl rfl (Nat.le_of_ble_eq_true rfl) (Nat.le_trans (Nat.le_of_ble_eq_true rfl : 2 + 1 ≤ 3) hD) (S_R_goes hfl (Nat.le_refl _) h2 a0 v3)) (fun v5 h4 => ?_))
  refine y_if_eq (tgt := 28) d_R_lineAt_15 (by decide) ?_ ?_
  · refine y_iconst (v := (J 0)) d_R_lineAt_28 rfl ?_
    exact y_gC (fun hn => y_retI d_R_lineAt_29 rfl hn)
  · refine y_aload_n d_R_lineAt_18 rfl ?_
    refine y_getA d_R_lineAt_19 f_R_32 (fun v6 => ?_)
    refine y_iload_n d_R_lineAt_22 rfl ?_
    refine y_iald d_R_lineAt_23 (fun v7 => ?_)
    refine y_i2c (v := (((v7).toUInt32 % 65536).toInt32)) d_R_lineAt_24 rfl ?_
    refine y_goto (tgt := 29) d_R_lineAt_25 (by decide) ?_
    exact y_gC (fun hn => y_retI d_R_lineAt_29 rfl hn)
noncomputable def P_R_append (Θ : mW) (N : Nat) (h : mH) (a0 : Nat) (a1 : Int32) : Option (Int32 × mH) :=
  (bc (P_R_isIn Θ N h a1 (J 32) (J 126)) (fun v2 h1 => (bo (rI Θ h1 9 a0 10) (fun v3 => (jn (fun (h5 : mH) (s6 : Int32) => (gO Θ h5 9 a0 (bc (P_R_holds Θ N h5 a0 v2 s6 (J 1) (J 1)) (fun v8 h7 => (if v8 = 0 then (some ((J 0), h7)) else (bo (rA Θ h7 9 a0 9) (fun v9 => (bo (rI Θ h7 9 a0 10) (fun v10 => (bo (aW Θ h7 0 v9 v10 a1) (fun h11 => (bo (rI Θ h11 9 a0 10) (fun v12 => (bo (wF Θ h11 9 a0 10 (.int (v12 + (J 1)))) (fun h13 => (bo (rI Θ h13 9 a0 10) (fun v14 => (some (v14, h13))))))))))))))))))) (fun j4 => (if (J 60) ≤ v3 then (j4 h1 (J 0)) else (j4 h1 (J 1)))))))))
theorem S_R_append (hfl : HF l Θ) (hD : 2 ≤ d) (h : mH) (a0 : Nat) (a1 : Int32) : mMs l Θ d M_R_append [.ref a0, .int a1] h (tR vI) (P_R_append Θ N h a0 a1) := by
  refine mMs.of hfl (by decide +kernel) rfl (Nat.le_of_ble_eq_true rfl) (loc := [some (.ref a0), some (.int a1)]) rfl ?_
  unfold P_R_append
  refine y_aload_n d_R_append_0 rfl ?_
  refine y_iload_n d_R_append_1 rfl ?_
  refine y_bipush (v := (J 32)) d_R_append_2 (by decide +kernel) ?_
  refine y_bipush (v := (J 126)) d_R_append_4 (by decide +kernel) ?_
  refine y_cI (c_st (rest := [.ref a0]) d_R_append_6 k_R_isIn s_R_83 rfl rfl (Nat.le_of_ble_eq_true rfl) (Nat.le_trans (Nat.le_of_ble_eq_true rfl : 1 + 1 ≤ 2) hD) (S_R_isIn hfl (Nat.le_refl _) h a1 (J 32) (J 126))) (fun v2 h1 => ?_)
  refine y_aload_n d_R_append_9 rfl ?_
  refine y_getI d_R_append_10 f_R_229 (fun v3 => ?_)
  refine y_bipush (v := (J 60)) d_R_append_13 (by decide +kernel) ?_
  refine y_jn (C := fun (j9 : mH → Int32 → Option (Int32 × mH)) => ∀ (h5 : mH) (s6 : Int32), mY l Θ d M_R_append 23 [some (.ref a0), some (.int a1)] [.int s6, .int v2, .ref a0] h5 (tR vI) (j9 h5 s6)) (fun h5 s6 => ?_) (fun j4 Hj4 => ?_)
  · refine y_iconst (v := (J 1)) d_R_append_23 rfl ?_
    refine y_iconst (v := (J 1)) d_R_append_24 rfl ?_
    refine y_gO (fun fs1 g1 => y_cI (c_vi (rest := []) d_R_append_25 k_R_holds s_R_45 (Or.inl ⟨_, _, _, g1, rfl, rfl⟩) rfl rfl (Nat.le_of_ble_eq_true rfl) (Nat.le_trans (Nat.le_of_ble_eq_true rfl : 1 + 1 ≤ 2) hD) (S_R_holds hfl (Nat.le_refl _) h5 a0 v2 s6 (J 1) (J 1))) (fun v8 h7 => ?_))
    refine y_if_ne (tgt := 33) d_R_append_28 (by decide) ?_ ?_
    · refine y_aload_n d_R_append_33 rfl ?_
      refine y_getA d_R_append_34 f_R_29 (fun v9 => ?_)
      refine y_aload_n d_R_append_37 rfl ?_
      refine y_getI d_R_append_38 f_R_229 (fun v10 => ?_)
      refine y_iload_n d_R_append_41 rfl ?_
      refine y_iast d_R_append_42 (fun h11 => ?_)
      refine y_aload_n d_R_append_43 rfl ?_
      refine y_dup d_R_append_44 rfl ?_
      refine y_getI d_R_append_45 f_R_229 (fun v12 => ?_)
      refine y_iconst (v := (J 1)) d_R_append_48 rfl ?_
      refine y_iadd (v := (v12 + (J 1))) d_R_append_49 rfl ?_
      refine y_put d_R_append_50 p_R_229 rfl rfl (fun h13 => ?_)
      refine y_aload_n d_R_append_53 rfl ?_
      refine y_getI d_R_append_54 f_R_229 (fun v14 => ?_)
      exact y_retI d_R_append_57 rfl rfl
    · refine y_iconst (v := (J 0)) d_R_append_31 rfl ?_
      exact y_retI d_R_append_32 rfl rfl
  · refine y_icmp_ge (tgt := 22) d_R_append_15 (by decide) ?_ ?_
    · refine y_iconst (v := (J 0)) d_R_append_22 rfl ?_
      exact Hj4 h1 (J 0)
    · refine y_iconst (v := (J 1)) d_R_append_18 rfl ?_
      refine y_goto (tgt := 23) d_R_append_19 (by decide) ?_
      exact Hj4 h1 (J 1)
noncomputable def P_R_does (Θ : mW) (N : Nat) (h : mH) (a0 : Nat) (a1 : Int32) : Option (Int32 × mH) :=
  (bo (rA Θ h 9 a0 19) (fun v1 => (bo (aR Θ h 0 v1 (a1 + (J 1))) (fun v2 => (bo (rA Θ h 9 a0 19) (fun v3 => (bo (aR Θ h 0 v3 (a1 + (J 2))) (fun v4 => (bo (rA Θ h 9 a0 19) (fun v5 => (bo (aR Θ h 0 v5 a1) (fun v6 => (if (v6).toInt < 0 ∨ 10 < (v6).toInt then (gO Θ h 9 a0 (bc (P_R_pays Θ N h a0 v2 v4) (fun v8 h7 => (some (v8, h7))))) else if v6 = J 0 then (bo (rA Θ h 9 a0 19) (fun v9 => (bo (aR Θ h 0 v9 (a1 + (J 3))) (fun v10 => (gO Θ h 9 a0 (bc (P_R_adds Θ N h a0 v2 v4 v10) (fun v12 h11 => (some (v12, h11))))))))) else if v6 = J 1 then (gO Θ h 9 a0 (bc (P_R_enters Θ N h a0 v2 v4) (fun v14 h13 => (some (v14, h13))))) else if v6 = J 2 then (gO Θ h 9 a0 (bc (P_R_leaves Θ N h a0 v2) (fun v16 h15 => (some (v16, h15))))) else if v6 = J 3 then (bo (rA Θ h 9 a0 19) (fun v17 => (bo (aR Θ h 0 v17 a1) (fun v18 => (gO Θ h 9 a0 (bc (P_R_cleans Θ N h a0 v2 ((J 4) - v18)) (fun v20 h19 => (some (v20, h19))))))))) else if v6 = J 4 then (bo (rA Θ h 9 a0 19) (fun v21 => (bo (aR Θ h 0 v21 a1) (fun v22 => (gO Θ h 9 a0 (bc (P_R_cleans Θ N h a0 v2 ((J 4) - v22)) (fun v24 h23 => (some (v24, h23))))))))) else if v6 = J 5 then (bo (rA Θ h 9 a0 19) (fun v25 => (bo (aR Θ h 0 v25 a1) (fun v26 => (gO Θ h 9 a0 (bc (P_R_gates Θ N h a0 ((J 6) - v26)) (fun v28 h27 => (some (v28, h27))))))))) else if v6 = J 6 then (bo (rA Θ h 9 a0 19) (fun v29 => (bo (aR Θ h 0 v29 a1) (fun v30 => (gO Θ h 9 a0 (bc (P_R_gates Θ N h a0 ((J 6) - v30)) (fun v32 h31 => (some (v32, h31))))))))) else if v6 = J 7 then (gO Θ h 9 a0 (bc (P_R_pumps Θ N h a0 v2) (fun v34 h33 => (some (v34, h33))))) else if v6 = J 8 then (gO Θ h 9 a0 (bc (P_R_waits Θ N h a0 v2) (fun v36 h35 => (some (v36, h35))))) else if v6 = J 9 then (gO Θ h 9 a0 (bc (P_R_lays Θ N h a0 v2) (fun v38 h37 => (some (v38, h37))))) else if v6 = J 10 then (gO Θ h 9 a0 (bc (P_R_takes Θ N h a0 v2) (fun v40 h39 => (some (v40, h39))))) else none)))))))))))))
theorem S_R_does (hfl : HF l Θ) (hD : 8 ≤ d) (h : mH) (a0 : Nat) (a1 : Int32) : mMs l Θ d M_R_does [.ref a0, .int a1] h (tR vI) (P_R_does Θ N h a0 a1) := by
  refine mMs.of hfl (by decide +kernel) rfl (Nat.le_of_ble_eq_true rfl) (loc := [some (.ref a0), some (.int a1), none, none]) rfl ?_
  unfold P_R_does
  refine y_aload_n d_R_does_0 rfl ?_
  refine y_getA d_R_does_1 f_R_39 (fun v1 => ?_)
  refine y_iload_n d_R_does_4 rfl ?_
  refine y_iconst (v := (J 1)) d_R_does_5 rfl ?_
  refine y_iadd (v := (a1 + (J 1))) d_R_does_6 rfl ?_
  refine y_iald d_R_does_7 (fun v2 => ?_)
  refine y_istore_n (loc2 := [some (.ref a0), some (.int a1), some (.int v2), none]) d_R_does_8 (Nat.le_of_ble_eq_true rfl) rfl rfl ?_
  refine y_aload_n d_R_does_9 rfl ?_
  refine y_getA d_R_does_10 f_R_39 (fun v3 => ?_)
  refine y_iload_n d_R_does_13 rfl ?_
  refine y_iconst (v := (J 2)) d_R_does_14 rfl ?_
  refine y_iadd (v := (a1 + (J 2))) d_R_does_15 rfl ?_
  refine y_iald d_R_does_16 (fun v4 => ?_)
  refine y_istore_n (loc2 := [some (.ref a0), some (.int a1), some (.int v2), some (.int v4)]) d_R_does_17 (Nat.le_of_ble_eq_true rfl) rfl rfl ?_
  refine y_aload_n d_R_does_18 rfl ?_
  refine y_getA d_R_does_19 f_R_39 (fun v5 => ?_)
  refine y_iload_n d_R_does_22 rfl ?_
  refine y_iald d_R_does_23 (fun v6 => ?_)
  refine y_tabOut (tgt := 164) d_R_does_24 (by decide) ?_ (fun hn => ?_)
  · refine y_aload_n d_R_does_164 rfl ?_
    refine y_iload_n d_R_does_165 rfl ?_
    refine y_iload_n d_R_does_166 rfl ?_
    refine y_gO (fun fs1 g1 => y_cI (c_vi (rest := []) d_R_does_167 k_R_pays s_R_137 (Or.inl ⟨_, _, _, g1, rfl, rfl⟩) rfl rfl (Nat.le_of_ble_eq_true rfl) (Nat.le_trans (Nat.le_of_ble_eq_true rfl : 4 + 1 ≤ 8) hD) (S_R_pays hfl (Nat.le_refl _) h a0 v2 v4)) (fun v8 h7 => ?_))
    exact y_retI d_R_does_170 rfl rfl
  refine y_tabIn (tgt := 84) d_R_does_24 hn (by decide +kernel) rfl (by decide) ?_ ?_
  · refine y_aload_n d_R_does_84 rfl ?_
    refine y_iload_n d_R_does_85 rfl ?_
    refine y_iload_n d_R_does_86 rfl ?_
    refine y_aload_n d_R_does_87 rfl ?_
    refine y_getA d_R_does_88 f_R_39 (fun v9 => ?_)
    refine y_iload_n d_R_does_91 rfl ?_
    refine y_iconst (v := (J 3)) d_R_does_92 rfl ?_
    refine y_iadd (v := (a1 + (J 3))) d_R_does_93 rfl ?_
    refine y_iald d_R_does_94 (fun v10 => ?_)
    refine y_gO (fun fs1 g1 => y_cI (c_vi (rest := []) d_R_does_95 k_R_adds s_R_97 (Or.inl ⟨_, _, _, g1, rfl, rfl⟩) rfl rfl (Nat.le_of_ble_eq_true rfl) (Nat.le_trans (Nat.le_of_ble_eq_true rfl : 2 + 1 ≤ 8) hD) (S_R_adds hfl (Nat.le_refl _) h a0 v2 v4 v10)) (fun v12 h11 => ?_))
    exact y_retI d_R_does_98 rfl rfl
  refine y_tabIn (tgt := 99) d_R_does_24 hn (by decide +kernel) rfl (by decide) ?_ ?_
  · refine y_aload_n d_R_does_99 rfl ?_
    refine y_iload_n d_R_does_100 rfl ?_
    refine y_iload_n d_R_does_101 rfl ?_
    refine y_gO (fun fs1 g1 => y_cI (c_vi (rest := []) d_R_does_102 k_R_enters s_R_125 (Or.inl ⟨_, _, _, g1, rfl, rfl⟩) rfl rfl (Nat.le_of_ble_eq_true rfl) (Nat.le_trans (Nat.le_of_ble_eq_true rfl : 6 + 1 ≤ 8) hD) (S_R_enters hfl (Nat.le_refl _) h a0 v2 v4)) (fun v14 h13 => ?_))
    exact y_retI d_R_does_105 rfl rfl
  refine y_tabIn (tgt := 106) d_R_does_24 hn (by decide +kernel) rfl (by decide) ?_ ?_
  · refine y_aload_n d_R_does_106 rfl ?_
    refine y_iload_n d_R_does_107 rfl ?_
    refine y_gO (fun fs1 g1 => y_cI (c_vi (rest := []) d_R_does_108 k_R_leaves s_R_131 (Or.inl ⟨_, _, _, g1, rfl, rfl⟩) rfl rfl (Nat.le_of_ble_eq_true rfl) (Nat.le_trans (Nat.le_of_ble_eq_true rfl : 5 + 1 ≤ 8) hD) (S_R_leaves hfl (Nat.le_refl _) h a0 v2)) (fun v16 h15 => ?_))
    exact y_retI d_R_does_111 rfl rfl
  refine y_tabIn (tgt := 112) d_R_does_24 hn (by decide +kernel) rfl (by decide) ?_ ?_
  · refine y_aload_n d_R_does_112 rfl ?_
    refine y_iload_n d_R_does_113 rfl ?_
    refine y_iconst (v := (J 4)) d_R_does_114 rfl ?_
    refine y_aload_n d_R_does_115 rfl ?_
    refine y_getA d_R_does_116 f_R_39 (fun v17 => ?_)
    refine y_iload_n d_R_does_119 rfl ?_
    refine y_iald d_R_does_120 (fun v18 => ?_)
    refine y_isub (v := ((J 4) - v18)) d_R_does_121 rfl ?_
    refine y_gO (fun fs1 g1 => y_cI (c_vi (rest := []) d_R_does_122 k_R_cleans s_R_134 (Or.inl ⟨_, _, _, g1, rfl, rfl⟩) rfl rfl (Nat.le_of_ble_eq_true rfl) (Nat.le_trans (Nat.le_of_ble_eq_true rfl : 4 + 1 ≤ 8) hD) (S_R_cleans hfl (Nat.le_refl _) h a0 v2 ((J 4) - v18))) (fun v20 h19 => ?_))
    exact y_retI d_R_does_125 rfl rfl
  refine y_tabIn (tgt := 112) d_R_does_24 hn (by decide +kernel) rfl (by decide) ?_ ?_
  · refine y_aload_n d_R_does_112 rfl ?_
    refine y_iload_n d_R_does_113 rfl ?_
    refine y_iconst (v := (J 4)) d_R_does_114 rfl ?_
    refine y_aload_n d_R_does_115 rfl ?_
    refine y_getA d_R_does_116 f_R_39 (fun v21 => ?_)
    refine y_iload_n d_R_does_119 rfl ?_
    refine y_iald d_R_does_120 (fun v22 => ?_)
    refine y_isub (v := ((J 4) - v22)) d_R_does_121 rfl ?_
    refine y_gO (fun fs1 g1 => y_cI (c_vi (rest := []) d_R_does_122 k_R_cleans s_R_134 (Or.inl ⟨_, _, _, g1, rfl, rfl⟩) rfl rfl (Nat.le_of_ble_eq_true rfl) (Nat.le_trans (Nat.le_of_ble_eq_true rfl : 4 + 1 ≤ 8) hD) (S_R_cleans hfl (Nat.le_refl _) h a0 v2 ((J 4) - v22))) (fun v24 h23 => ?_))
    exact y_retI d_R_does_125 rfl rfl
  refine y_tabIn (tgt := 126) d_R_does_24 hn (by decide +kernel) rfl (by decide) ?_ ?_
  · refine y_aload_n d_R_does_126 rfl ?_
    refine y_bipush (v := (J 6)) d_R_does_127 (by decide +kernel) ?_
    refine y_aload_n d_R_does_129 rfl ?_
    refine y_getA d_R_does_130 f_R_39 (fun v25 => ?_)
    refine y_iload_n d_R_does_133 rfl ?_
    refine y_iald d_R_does_134 (fun v26 => ?_)
    refine y_isub (v := ((J 6) - v26)) d_R_does_135 rfl ?_
    refine y_gO (fun fs1 g1 => y_cI (c_vi (rest := []) d_R_does_136 k_R_gates s_R_146 (Or.inl ⟨_, _, _, g1, rfl, rfl⟩) rfl rfl (Nat.le_of_ble_eq_true rfl) (Nat.le_trans (Nat.le_of_ble_eq_true rfl : 3 + 1 ≤ 8) hD) (S_R_gates hfl (Nat.le_refl _) h a0 ((J 6) - v26))) (fun v28 h27 => ?_))
    exact y_retI d_R_does_139 rfl rfl
  refine y_tabIn (tgt := 126) d_R_does_24 hn (by decide +kernel) rfl (by decide) ?_ ?_
  · refine y_aload_n d_R_does_126 rfl ?_
    refine y_bipush (v := (J 6)) d_R_does_127 (by decide +kernel) ?_
    refine y_aload_n d_R_does_129 rfl ?_
    refine y_getA d_R_does_130 f_R_39 (fun v29 => ?_)
    refine y_iload_n d_R_does_133 rfl ?_
    refine y_iald d_R_does_134 (fun v30 => ?_)
    refine y_isub (v := ((J 6) - v30)) d_R_does_135 rfl ?_
    refine y_gO (fun fs1 g1 => y_cI (c_vi (rest := []) d_R_does_136 k_R_gates s_R_146 (Or.inl ⟨_, _, _, g1, rfl, rfl⟩) rfl rfl (Nat.le_of_ble_eq_true rfl) (Nat.le_trans (Nat.le_of_ble_eq_true rfl : 3 + 1 ≤ 8) hD) (S_R_gates hfl (Nat.le_refl _) h a0 ((J 6) - v30))) (fun v32 h31 => ?_))
    exact y_retI d_R_does_139 rfl rfl
  refine y_tabIn (tgt := 140) d_R_does_24 hn (by decide +kernel) rfl (by decide) ?_ ?_
  · refine y_aload_n d_R_does_140 rfl ?_
    refine y_iload_n d_R_does_141 rfl ?_
    refine y_gO (fun fs1 g1 => y_cI (c_vi (rest := []) d_R_does_142 k_R_pumps s_R_149 (Or.inl ⟨_, _, _, g1, rfl, rfl⟩) rfl rfl (Nat.le_of_ble_eq_true rfl) (Nat.le_trans (Nat.le_of_ble_eq_true rfl : 3 + 1 ≤ 8) hD) (S_R_pumps hfl (Nat.le_refl _) h a0 v2)) (fun v34 h33 => ?_))
    exact y_retI d_R_does_145 rfl rfl
  refine y_tabIn (tgt := 146) d_R_does_24 hn (by decide +kernel) rfl (by decide) ?_ ?_
  · refine y_aload_n d_R_does_146 rfl ?_
    refine y_iload_n d_R_does_147 rfl ?_
    refine y_gO (fun fs1 g1 => y_cI (c_vi (rest := []) d_R_does_148 k_R_waits s_R_179 (Or.inl ⟨_, _, _, g1, rfl, rfl⟩) rfl rfl (Nat.le_of_ble_eq_true rfl) (Nat.le_trans (Nat.le_of_ble_eq_true rfl : 7 + 1 ≤ 8) hD) (S_R_waits hfl (Nat.le_refl _) h a0 v2)) (fun v36 h35 => ?_))
    exact y_retI d_R_does_151 rfl rfl
  refine y_tabIn (tgt := 152) d_R_does_24 hn (by decide +kernel) rfl (by decide) ?_ ?_
  · refine y_aload_n d_R_does_152 rfl ?_
    refine y_iload_n d_R_does_153 rfl ?_
    refine y_gO (fun fs1 g1 => y_cI (c_vi (rest := []) d_R_does_154 k_R_lays s_R_158 (Or.inl ⟨_, _, _, g1, rfl, rfl⟩) rfl rfl (Nat.le_of_ble_eq_true rfl) (Nat.le_trans (Nat.le_of_ble_eq_true rfl : 5 + 1 ≤ 8) hD) (S_R_lays hfl (Nat.le_refl _) h a0 v2)) (fun v38 h37 => ?_))
    exact y_retI d_R_does_157 rfl rfl
  refine y_tabIn (tgt := 158) d_R_does_24 hn (by decide +kernel) rfl (by decide) ?_ ?_
  · refine y_aload_n d_R_does_158 rfl ?_
    refine y_iload_n d_R_does_159 rfl ?_
    refine y_gO (fun fs1 g1 => y_cI (c_vi (rest := []) d_R_does_160 k_R_takes s_R_161 (Or.inl ⟨_, _, _, g1, rfl, rfl⟩) rfl rfl (Nat.le_of_ble_eq_true rfl) (Nat.le_trans (Nat.le_of_ble_eq_true rfl : 5 + 1 ≤ 8) hD) (S_R_takes hfl (Nat.le_refl _) h a0 v2)) (fun v40 h39 => ?_))
    exact y_retI d_R_does_163 rfl rfl
  exact y_none
noncomputable def P_R_letterHere (Θ : mW) (N : Nat) (h : mH) (a0 : Nat) : Option (Int32 × mH) :=
  (bo (rI Θ h 9 a0 16) (fun v1 => (bo (rI Θ h 9 a0 15) (fun v2 => (if v2 ≤ v1 then (some ((J (-1)), h)) else (bo (rA Θ h 9 a0 9) (fun v3 => (bo (rI Θ h 9 a0 16) (fun v4 => (bo (aR Θ h 0 v3 v4) (fun v5 => (some (v5, h)))))))))))))
theorem S_R_letterHere (hfl : HF l Θ) (hD : 1 ≤ d) (h : mH) (a0 : Nat) : mMs l Θ d M_R_letterHere [.ref a0] h (tR vI) (P_R_letterHere Θ N h a0) := by
  refine mMs.of hfl (by decide +kernel) rfl (Nat.le_of_ble_eq_true rfl) (loc := [some (.ref a0)]) rfl ?_
  unfold P_R_letterHere
  refine y_aload_n d_R_letterHere_0 rfl ?_
  refine y_getI d_R_letterHere_1 f_R_232 (fun v1 => ?_)
  refine y_aload_n d_R_letterHere_4 rfl ?_
  refine y_getI d_R_letterHere_5 f_R_235 (fun v2 => ?_)
  refine y_icmp_ge (tgt := 23) d_R_letterHere_8 (by decide) ?_ ?_
  · refine y_iconst (v := (J (-1))) d_R_letterHere_23 rfl ?_
    exact y_retI d_R_letterHere_24 rfl rfl
  · refine y_aload_n d_R_letterHere_11 rfl ?_
    refine y_getA d_R_letterHere_12 f_R_29 (fun v3 => ?_)
    refine y_aload_n d_R_letterHere_15 rfl ?_
    refine y_getI d_R_letterHere_16 f_R_232 (fun v4 => ?_)
    refine y_iald d_R_letterHere_19 (fun v5 => ?_)
    refine y_goto (tgt := 24) d_R_letterHere_20 (by decide) ?_
    exact y_retI d_R_letterHere_24 rfl rfl
noncomputable def P_R_reads (Θ : mW) (N : Nat) (h : mH) (a0 : Nat) (a1 : Int32) (a2 : Int32) : Option (Int32 × mH) :=
  (bo (rI Θ h 9 a0 17) (fun v1 => (jn (fun (h3 : mH) => (bo (rI Θ h3 9 a0 17) (fun v4 => (if v4 = (J (-1)) then (bo (rI Θ h3 9 a0 16) (fun v7 => (bo (wF Θ h3 9 a0 17 (.int v7)) (fun h8 => (some ((J 0), h8)))))) else (bo (rI Θ h3 9 a0 17) (fun v5 => (bo (wF Θ h3 9 a0 17 (.int v5)) (fun h6 => (some ((J 0), h6)))))))))) (fun j2 => (if v1 = (J (-1)) then (gO Θ h 9 a0 (bc (P_R_letterHere Θ N h a0) (fun v10 h9 => (bc (P_R_isIn Θ N h9 v10 a1 a2) (fun v12 h11 => (if v12 = 0 then (j2 h11) else (bo (rI Θ h11 9 a0 16) (fun v13 => (bo (wF Θ h11 9 a0 16 (.int (v13 + (J 1)))) (fun h14 => (bo (rA Θ h14 9 a0 9) (fun v15 => (bo (rI Θ h14 9 a0 16) (fun v16 => (bo (aR Θ h14 0 v15 (v16 - (J 1))) (fun v17 => (some ((v17 - a1), h14)))))))))))))))))) else (j2 h))))))
theorem S_R_reads (hfl : HF l Θ) (hD : 2 ≤ d) (h : mH) (a0 : Nat) (a1 : Int32) (a2 : Int32) : mMs l Θ d M_R_reads [.ref a0, .int a1, .int a2] h (tR vI) (P_R_reads Θ N h a0 a1 a2) := by
  refine mMs.of hfl (by decide +kernel) rfl (Nat.le_of_ble_eq_true rfl) (loc := [some (.ref a0), some (.int a1), some (.int a2)]) rfl ?_
  unfold P_R_reads
  refine y_aload_n d_R_reads_0 rfl ?_
  refine y_getI d_R_reads_1 f_R_238 (fun v1 => ?_)
  refine y_iconst (v := (J (-1))) d_R_reads_4 rfl ?_
  refine y_jn (C := fun (j9 : mH → Option (Int32 × mH)) => ∀ (h3 : mH), mY l Θ d M_R_reads 44 [some (.ref a0), none, none] [] h3 (tR vI) (j9 h3)) (fun h3 => ?_) (fun j2 Hj2 => ?_)
  · refine y_aload_n d_R_reads_44 rfl ?_
    refine y_aload_n d_R_reads_45 rfl ?_
    refine y_getI d_R_reads_46 f_R_238 (fun v4 => ?_)
    refine y_iconst (v := (J (-1))) d_R_reads_49 rfl ?_
    refine y_icmp_ne (tgt := 60) d_R_reads_50 (by decide) ?_ ?_
    · refine y_aload_n d_R_reads_60 rfl ?_
      refine y_getI d_R_reads_61 f_R_238 (fun v5 => ?_)
      refine y_put d_R_reads_64 p_R_238 rfl rfl (fun h6 => ?_)
      refine y_iconst (v := (J 0)) d_R_reads_67 rfl ?_
      exact y_retI d_R_reads_68 rfl rfl
    · refine y_aload_n d_R_reads_53 rfl ?_
      refine y_getI d_R_reads_54 f_R_232 (fun v7 => ?_)
      refine y_goto (tgt := 64) d_R_reads_57 (by decide) ?_
      refine y_put d_R_reads_64 p_R_238 rfl rfl (fun h8 => ?_)
      refine y_iconst (v := (J 0)) d_R_reads_67 rfl ?_
      exact y_retI d_R_reads_68 rfl rfl
  · refine y_icmp_ne (tgt := 44) d_R_reads_5 (by decide) ?_ ?_
    · exact y_wk (loc2 := [some (.ref a0), none, none]) ⟨rfl, trivial⟩ (Hj2 h)
    · refine y_aload_n d_R_reads_8 rfl ?_
      refine y_gO (fun fs1 g1 => y_cI (c_vi (rest := []) d_R_reads_9 k_R_letterHere s_R_241 (Or.inl ⟨_, _, _, g1, rfl, rfl⟩) rfl rfl (Nat.le_of_ble_eq_true rfl) (Nat.le_trans (Nat.le_of_ble_eq_true rfl : 1 + 1 ≤ 2) hD) (S_R_letterHere hfl (Nat.le_refl _) h a0)) (fun v10 h9 => ?_))
      refine y_iload_n d_R_reads_12 rfl ?_
      refine y_iload_n d_R_reads_13 rfl ?_
      refine y_cI (c_st (rest := []) d_R_reads_14 k_R_isIn s_R_83 rfl rfl (Nat.le_of_ble_eq_true rfl) (Nat.le_trans (Nat.le_of_ble_eq_true rfl : 1 + 1 ≤ 2) hD) (S_R_isIn hfl (Nat.le_refl _) h9 v10 a1 a2)) (fun v12 h11 => ?_)
      refine y_if_eq (tgt := 44) d_R_reads_17 (by decide) ?_ ?_
      · exact y_wk (loc2 := [some (.ref a0), none, none]) ⟨rfl, trivial⟩ (Hj2 h11)
      · refine y_aload_n d_R_reads_20 rfl ?_
        refine y_dup d_R_reads_21 rfl ?_
        refine y_getI d_R_reads_22 f_R_232 (fun v13 => ?_)
        refine y_iconst (v := (J 1)) d_R_reads_25 rfl ?_
        refine y_iadd (v := (v13 + (J 1))) d_R_reads_26 rfl ?_
        refine y_put d_R_reads_27 p_R_232 rfl rfl (fun h14 => ?_)
        refine y_aload_n d_R_reads_30 rfl ?_
        refine y_getA d_R_reads_31 f_R_29 (fun v15 => ?_)
        refine y_aload_n d_R_reads_34 rfl ?_
        refine y_getI d_R_reads_35 f_R_232 (fun v16 => ?_)
        refine y_iconst (v := (J 1)) d_R_reads_38 rfl ?_
        refine y_isub (v := (v16 - (J 1))) d_R_reads_39 rfl ?_
        refine y_iald d_R_reads_40 (fun v17 => ?_)
        refine y_iload_n d_R_reads_41 rfl ?_
        refine y_isub (v := (v17 - a1)) d_R_reads_42 rfl ?_
        exact y_retI d_R_reads_43 rfl rfl
noncomputable def P_R_startOf (Θ : mW) (N : Nat) (h : mH) (a0 : Int32) : Option (Int32 × mH) :=
  (if (a0).toInt < 0 ∨ 11 < (a0).toInt then (some ((J 65), h)) else if a0 = J 0 then (some ((J 0), h)) else if a0 = J 1 then (some (((J 5) + ((J 6) * (a0 - (J 1)))), h)) else if a0 = J 2 then (some (((J 5) + ((J 6) * (a0 - (J 1)))), h)) else if a0 = J 3 then (some (((J 5) + ((J 6) * (a0 - (J 1)))), h)) else if a0 = J 4 then (some (((J 5) + ((J 6) * (a0 - (J 1)))), h)) else if a0 = J 5 then (some ((J 28), h)) else if a0 = J 6 then (some ((J 32), h)) else if a0 = J 7 then (some (((J 37) + ((J 5) * (a0 - (J 7)))), h)) else if a0 = J 8 then (some (((J 37) + ((J 5) * (a0 - (J 7)))), h)) else if a0 = J 9 then (some (((J 37) + ((J 5) * (a0 - (J 7)))), h)) else if a0 = J 10 then (some ((J 53), h)) else if a0 = J 11 then (some ((J 61), h)) else none)
theorem S_R_startOf (hfl : HF l Θ) (hD : 1 ≤ d) (h : mH) (a0 : Int32) : mMs l Θ d M_R_startOf [.int a0] h (tR vI) (P_R_startOf Θ N h a0) := by
  refine mMs.of hfl (by decide +kernel) rfl (Nat.le_of_ble_eq_true rfl) (loc := [some (.int a0)]) rfl ?_
  unfold P_R_startOf
  refine y_iload_n d_R_startOf_0 rfl ?_
  refine y_tabOut (tgt := 97) d_R_startOf_1 (by decide) ?_ (fun hn => ?_)
  · refine y_bipush (v := (J 65)) d_R_startOf_97 (by decide +kernel) ?_
    exact y_retI d_R_startOf_99 rfl rfl
  refine y_tabIn (tgt := 64) d_R_startOf_1 hn (by decide +kernel) rfl (by decide) ?_ ?_
  · refine y_iconst (v := (J 0)) d_R_startOf_64 rfl ?_
    exact y_retI d_R_startOf_65 rfl rfl
  refine y_tabIn (tgt := 66) d_R_startOf_1 hn (by decide +kernel) rfl (by decide) ?_ ?_
  · refine y_iconst (v := (J 5)) d_R_startOf_66 rfl ?_
    refine y_bipush (v := (J 6)) d_R_startOf_67 (by decide +kernel) ?_
    refine y_iload_n d_R_startOf_69 rfl ?_
    refine y_iconst (v := (J 1)) d_R_startOf_70 rfl ?_
    refine y_isub (v := (a0 - (J 1))) d_R_startOf_71 rfl ?_
    refine y_imul (v := ((J 6) * (a0 - (J 1)))) d_R_startOf_72 rfl ?_
    refine y_iadd (v := ((J 5) + ((J 6) * (a0 - (J 1))))) d_R_startOf_73 rfl ?_
    exact y_retI d_R_startOf_74 rfl rfl
  refine y_tabIn (tgt := 66) d_R_startOf_1 hn (by decide +kernel) rfl (by decide) ?_ ?_
  · refine y_iconst (v := (J 5)) d_R_startOf_66 rfl ?_
    refine y_bipush (v := (J 6)) d_R_startOf_67 (by decide +kernel) ?_
    refine y_iload_n d_R_startOf_69 rfl ?_
    refine y_iconst (v := (J 1)) d_R_startOf_70 rfl ?_
    refine y_isub (v := (a0 - (J 1))) d_R_startOf_71 rfl ?_
    refine y_imul (v := ((J 6) * (a0 - (J 1)))) d_R_startOf_72 rfl ?_
    refine y_iadd (v := ((J 5) + ((J 6) * (a0 - (J 1))))) d_R_startOf_73 rfl ?_
    exact y_retI d_R_startOf_74 rfl rfl
  refine y_tabIn (tgt := 66) d_R_startOf_1 hn (by decide +kernel) rfl (by decide) ?_ ?_
  · refine y_iconst (v := (J 5)) d_R_startOf_66 rfl ?_
    refine y_bipush (v := (J 6)) d_R_startOf_67 (by decide +kernel) ?_
    refine y_iload_n d_R_startOf_69 rfl ?_
    refine y_iconst (v := (J 1)) d_R_startOf_70 rfl ?_
    refine y_isub (v := (a0 - (J 1))) d_R_startOf_71 rfl ?_
    refine y_imul (v := ((J 6) * (a0 - (J 1)))) d_R_startOf_72 rfl ?_
    refine y_iadd (v := ((J 5) + ((J 6) * (a0 - (J 1))))) d_R_startOf_73 rfl ?_
    exact y_retI d_R_startOf_74 rfl rfl
  refine y_tabIn (tgt := 66) d_R_startOf_1 hn (by decide +kernel) rfl (by decide) ?_ ?_
  · refine y_iconst (v := (J 5)) d_R_startOf_66 rfl ?_
    refine y_bipush (v := (J 6)) d_R_startOf_67 (by decide +kernel) ?_
    refine y_iload_n d_R_startOf_69 rfl ?_
    refine y_iconst (v := (J 1)) d_R_startOf_70 rfl ?_
    refine y_isub (v := (a0 - (J 1))) d_R_startOf_71 rfl ?_
    refine y_imul (v := ((J 6) * (a0 - (J 1)))) d_R_startOf_72 rfl ?_
    refine y_iadd (v := ((J 5) + ((J 6) * (a0 - (J 1))))) d_R_startOf_73 rfl ?_
    exact y_retI d_R_startOf_74 rfl rfl
  refine y_tabIn (tgt := 75) d_R_startOf_1 hn (by decide +kernel) rfl (by decide) ?_ ?_
  · refine y_bipush (v := (J 28)) d_R_startOf_75 (by decide +kernel) ?_
    exact y_retI d_R_startOf_77 rfl rfl
  refine y_tabIn (tgt := 78) d_R_startOf_1 hn (by decide +kernel) rfl (by decide) ?_ ?_
  · refine y_bipush (v := (J 32)) d_R_startOf_78 (by decide +kernel) ?_
    exact y_retI d_R_startOf_80 rfl rfl
  refine y_tabIn (tgt := 81) d_R_startOf_1 hn (by decide +kernel) rfl (by decide) ?_ ?_
  · refine y_bipush (v := (J 37)) d_R_startOf_81 (by decide +kernel) ?_
    refine y_iconst (v := (J 5)) d_R_startOf_83 rfl ?_
    refine y_iload_n d_R_startOf_84 rfl ?_
    refine y_bipush (v := (J 7)) d_R_startOf_85 (by decide +kernel) ?_
    refine y_isub (v := (a0 - (J 7))) d_R_startOf_87 rfl ?_
    refine y_imul (v := ((J 5) * (a0 - (J 7)))) d_R_startOf_88 rfl ?_
    refine y_iadd (v := ((J 37) + ((J 5) * (a0 - (J 7))))) d_R_startOf_89 rfl ?_
    exact y_retI d_R_startOf_90 rfl rfl
  refine y_tabIn (tgt := 81) d_R_startOf_1 hn (by decide +kernel) rfl (by decide) ?_ ?_
  · refine y_bipush (v := (J 37)) d_R_startOf_81 (by decide +kernel) ?_
    refine y_iconst (v := (J 5)) d_R_startOf_83 rfl ?_
    refine y_iload_n d_R_startOf_84 rfl ?_
    refine y_bipush (v := (J 7)) d_R_startOf_85 (by decide +kernel) ?_
    refine y_isub (v := (a0 - (J 7))) d_R_startOf_87 rfl ?_
    refine y_imul (v := ((J 5) * (a0 - (J 7)))) d_R_startOf_88 rfl ?_
    refine y_iadd (v := ((J 37) + ((J 5) * (a0 - (J 7))))) d_R_startOf_89 rfl ?_
    exact y_retI d_R_startOf_90 rfl rfl
  refine y_tabIn (tgt := 81) d_R_startOf_1 hn (by decide +kernel) rfl (by decide) ?_ ?_
  · refine y_bipush (v := (J 37)) d_R_startOf_81 (by decide +kernel) ?_
    refine y_iconst (v := (J 5)) d_R_startOf_83 rfl ?_
    refine y_iload_n d_R_startOf_84 rfl ?_
    refine y_bipush (v := (J 7)) d_R_startOf_85 (by decide +kernel) ?_
    refine y_isub (v := (a0 - (J 7))) d_R_startOf_87 rfl ?_
    refine y_imul (v := ((J 5) * (a0 - (J 7)))) d_R_startOf_88 rfl ?_
    refine y_iadd (v := ((J 37) + ((J 5) * (a0 - (J 7))))) d_R_startOf_89 rfl ?_
    exact y_retI d_R_startOf_90 rfl rfl
  refine y_tabIn (tgt := 91) d_R_startOf_1 hn (by decide +kernel) rfl (by decide) ?_ ?_
  · refine y_bipush (v := (J 53)) d_R_startOf_91 (by decide +kernel) ?_
    exact y_retI d_R_startOf_93 rfl rfl
  refine y_tabIn (tgt := 94) d_R_startOf_1 hn (by decide +kernel) rfl (by decide) ?_ ?_
  · refine y_bipush (v := (J 61)) d_R_startOf_94 (by decide +kernel) ?_
    exact y_retI d_R_startOf_96 rfl rfl
  exact y_none
noncomputable def B_R_kindHere_36 (Θ : mW) (N : Nat) (K90 : mH → Int32 → Option (Int32 × mH)) (f0_ : Nat) (f1_ : Int32) (f2_ : Int32) (f3_ : Int32) (f4_ : Int32) (rc : mH → Int32 → Option (Int32 × mH)) (h : mH) (v5_ : Int32) : Option (Int32 × mH) :=
  (if f4_ ≤ v5_ then (K90 h v5_) else (bo (rI Θ h 9 f0_ 16) (fun v6 => (bo (rI Θ h 9 f0_ 15) (fun v7 => (if v7 ≤ (v6 + v5_) then (K90 h v5_) else (bo (rA Θ h 9 f0_ 9) (fun v8 => (bo (rI Θ h 9 f0_ 16) (fun v9 => (bo (aR Θ h 0 v8 (v9 + v5_)) (fun v10 => (bc (P_R_startOf Θ N h f3_) (fun v12 h11 => (bo (oS 38) (fun _ => (bc (P_ST_charAt Θ N h11 38 (v12 + v5_)) (fun v14 h13 => (if v10 = v14 then (rc h13 (v5_ + (J 1))) else (K90 h13 v5_))))))))))))))))))))
noncomputable def P_R_kindHere_36 (Θ : mW) (N : Nat) (K90 : mH → Int32 → Option (Int32 × mH)) (f0_ : Nat) (f1_ : Int32) (f2_ : Int32) (f3_ : Int32) (f4_ : Int32) : Nat → mH → Int32 → Option (Int32 × mH) :=
  lp (fun _ _ => none) (B_R_kindHere_36 Θ N K90 f0_ f1_ f2_ f3_ f4_)
noncomputable def B_R_kindHere_9 (Θ : mW) (N : Nat) (K121 : mH → Int32 → Int32 → Option (Int32 × mH)) (f0_ : Nat) (rc : mH → Int32 → Int32 → Int32 → Option (Int32 × mH)) (h : mH) (v1_ : Int32) (v2_ : Int32) (v3_ : Int32) : Option (Int32 × mH) :=
  (if (J 12) ≤ v3_ then (K121 h v1_ v2_) else (if v2_ = (J (-1)) then (bc (P_R_startOf Θ N h (v3_ + (J 1))) (fun v3 h2 => (bc (P_R_startOf Θ N h2 v3_) (fun v5 h4 => (P_R_kindHere_36 Θ N (fun h15 u16 => (bo (rI Θ h15 9 f0_ 16) (fun v17 => (jn (fun (h19 : mH) (s20 : Int32) => (rc h19 (mxI v1_ (v17 + u16)) s20 (v3_ + (J 1)))) (fun j18 => (if u16 = (v3 - v5) then (j18 h15 v3_) else (j18 h15 v2_))))))) f0_ v1_ v2_ v3_ (v3 - v5) N h4 (J 0)))))) else (K121 h v1_ v2_)))
noncomputable def P_R_kindHere_9 (Θ : mW) (N : Nat) (K121 : mH → Int32 → Int32 → Option (Int32 × mH)) (f0_ : Nat) : Nat → mH → Int32 → Int32 → Int32 → Option (Int32 × mH) :=
  lp (fun _ _ _ _ => none) (B_R_kindHere_9 Θ N K121 f0_)
noncomputable def P_R_kindHere (Θ : mW) (N : Nat) (h : mH) (a0 : Nat) : Option (Int32 × mH) :=
  (bo (rI Θ h 9 a0 16) (fun v1 => (P_R_kindHere_9 Θ N (fun h21 u22 u23 => (jn (fun (h25 : mH) (s26 : Int32) => (bo (wF Θ h25 9 a0 17 (.int s26)) (fun h27 => (bo (rI Θ h27 9 a0 16) (fun v28 => (if u23 = (J (-1)) then (bo (wF Θ h27 9 a0 16 (.int (v28 + (J 0)))) (fun h34 => (some (u23, h34)))) else (bc (P_R_startOf Θ N h27 (u23 + (J 1))) (fun v30 h29 => (bc (P_R_startOf Θ N h29 u23) (fun v32 h31 => (bo (wF Θ h31 9 a0 16 (.int (v28 + (v30 - v32)))) (fun h33 => (some (u23, h33)))))))))))))) (fun j24 => (if u23 = (J (-1)) then (j24 h21 u22) else (bo (rI Θ h21 9 a0 17) (fun v35 => (j24 h21 v35))))))) a0 N h v1 (J (-1)) (J 0))))
theorem SB_R_kindHere_36 (hfl : HF l Θ) (hD : 5 ≤ d) {K90 : mH → Int32 → Option (Int32 × mH)} {f0_ : Nat} {f1_ : Int32} {f2_ : Int32} {f3_ : Int32} {f4_ : Int32}  (hK90 : ∀ (h : mH) (v5_ : Int32), mY l Θ d M_R_kindHere 90 [some (.ref f0_), some (.int f1_), some (.int f2_), some (.int f3_), some (.int f4_), some (.int v5_)] [] h (tR vI) (K90 h v5_)) (rc : mH → Int32 → Option (Int32 × mH)) (ih : ∀ (h : mH) (v5_ : Int32), mY l Θ d M_R_kindHere 36 [some (.ref f0_), some (.int f1_), some (.int f2_), some (.int f3_), some (.int f4_), some (.int v5_)] [] h (tR vI) (rc h v5_)) : ∀ (h : mH) (v5_ : Int32), mY l Θ d M_R_kindHere 36 [some (.ref f0_), some (.int f1_), some (.int f2_), some (.int f3_), some (.int f4_), some (.int v5_)] [] h (tR vI) (B_R_kindHere_36 Θ N K90 f0_ f1_ f2_ f3_ f4_ rc h v5_) := by
  intro h v5_
  unfold B_R_kindHere_36
  refine y_iload d_R_kindHere_36 rfl ?_
  refine y_iload d_R_kindHere_38 rfl ?_
  refine y_icmp_ge (tgt := 90) d_R_kindHere_40 (by decide) ?_ ?_
  · exact hK90 h v5_
  · refine y_aload_n d_R_kindHere_43 rfl ?_
    refine y_getI d_R_kindHere_44 f_R_232 (fun v6 => ?_)
    refine y_iload d_R_kindHere_47 rfl ?_
    refine y_iadd (v := (v6 + v5_)) d_R_kindHere_49 rfl ?_
    refine y_aload_n d_R_kindHere_50 rfl ?_
    refine y_getI d_R_kindHere_51 f_R_235 (fun v7 => ?_)
    refine y_icmp_ge (tgt := 90) d_R_kindHere_54 (by decide) ?_ ?_
    · exact hK90 h v5_
    · refine y_aload_n d_R_kindHere_57 rfl ?_
      refine y_getA d_R_kindHere_58 f_R_29 (fun v8 => ?_)
      refine y_aload_n d_R_kindHere_61 rfl ?_
      refine y_getI d_R_kindHere_62 f_R_232 (fun v9 => ?_)
      refine y_iload d_R_kindHere_65 rfl ?_
      refine y_iadd (v := (v9 + v5_)) d_R_kindHere_67 rfl ?_
      refine y_iald d_R_kindHere_68 (fun v10 => ?_)
      refine y_ldcS d_R_kindHere_69 (List.mem_of_getElem? (i := 0) rfl) ?_
      refine y_iload_n d_R_kindHere_71 rfl ?_
      refine y_cI (c_st (rest := [.ref (mwad Θ 38), .int v10]) d_R_kindHere_72 k_R_startOf s_R_250 rfl rfl (Nat.le_of_ble_eq_true rfl) (Nat.le_trans (Nat.le_of_ble_eq_true rfl : 1 + 1 ≤ 5) hD) (S_R_startOf hfl (Nat.le_refl _) h f3_)) (fun v12 h11 => ?_)
      refine y_iload d_R_kindHere_75 rfl ?_
      refine y_iadd (v := (v12 + v5_)) d_R_kindHere_77 rfl ?_
      refine y_oldS (fun g1 => y_cI (c_vi (rest := [.int v10]) d_R_kindHere_78 k_ST_charAt s_R_255 (Or.inr ⟨_, g1, rfl⟩) rfl rfl (Nat.le_of_ble_eq_true rfl) (Nat.le_trans (Nat.le_of_ble_eq_true rfl : 4 + 1 ≤ 5) hD) (S_ST_charAt hfl (Nat.le_refl _) h11 38 (v12 + v5_))) (fun v14 h13 => ?_))
      refine y_icmp_ne (tgt := 90) d_R_kindHere_81 (by decide) ?_ ?_
      · exact hK90 h13 v5_
      · refine y_iinc (v := (v5_ + (J 1))) (loc2 := [some (.ref f0_), some (.int f1_), some (.int f2_), some (.int f3_), some (.int f4_), some (.int (v5_ + (J 1)))]) d_R_kindHere_84 rfl rfl (Nat.le_of_ble_eq_true rfl) rfl rfl ?_
        refine y_goto (tgt := 36) d_R_kindHere_87 (by decide) ?_
        exact ih h13 (v5_ + (J 1))
theorem S_R_kindHere_36 (hfl : HF l Θ) (hD : 5 ≤ d) {K90 : mH → Int32 → Option (Int32 × mH)} {f0_ : Nat} {f1_ : Int32} {f2_ : Int32} {f3_ : Int32} {f4_ : Int32}  (hK90 : ∀ (h : mH) (v5_ : Int32), mY l Θ d M_R_kindHere 90 [some (.ref f0_), some (.int f1_), some (.int f2_), some (.int f3_), some (.int f4_), some (.int v5_)] [] h (tR vI) (K90 h v5_)) : ∀ (n : Nat) (h : mH) (v5_ : Int32), mY l Θ d M_R_kindHere 36 [some (.ref f0_), some (.int f1_), some (.int f2_), some (.int f3_), some (.int f4_), some (.int v5_)] [] h (tR vI) (P_R_kindHere_36 Θ N K90 f0_ f1_ f2_ f3_ f4_ n h v5_) :=
  fun n => lp_all (C := fun (rc : mH → Int32 → Option (Int32 × mH)) => ∀ (h : mH) (v5_ : Int32), mY l Θ d M_R_kindHere 36 [some (.ref f0_), some (.int f1_), some (.int f2_), some (.int f3_), some (.int f4_), some (.int v5_)] [] h (tR vI) (rc h v5_)) (fun _ _ => y_none) (fun rc ih => SB_R_kindHere_36 hfl hD hK90 rc ih) n
theorem SB_R_kindHere_9 (hfl : HF l Θ) (hD : 5 ≤ d) {K121 : mH → Int32 → Int32 → Option (Int32 × mH)} {f0_ : Nat}  (hK121 : ∀ (h : mH) (v1_ : Int32) (v2_ : Int32), mY l Θ d M_R_kindHere 121 [some (.ref f0_), some (.int v1_), some (.int v2_), none, none, none] [] h (tR vI) (K121 h v1_ v2_)) (rc : mH → Int32 → Int32 → Int32 → Option (Int32 × mH)) (ih : ∀ (h : mH) (v1_ : Int32) (v2_ : Int32) (v3_ : Int32), mY l Θ d M_R_kindHere 9 [some (.ref f0_), some (.int v1_), some (.int v2_), some (.int v3_), none, none] [] h (tR vI) (rc h v1_ v2_ v3_)) : ∀ (h : mH) (v1_ : Int32) (v2_ : Int32) (v3_ : Int32), mY l Θ d M_R_kindHere 9 [some (.ref f0_), some (.int v1_), some (.int v2_), some (.int v3_), none, none] [] h (tR vI) (B_R_kindHere_9 Θ N K121 f0_ rc h v1_ v2_ v3_) := by
  intro h v1_ v2_ v3_
  unfold B_R_kindHere_9
  refine y_iload_n d_R_kindHere_9 rfl ?_
  refine y_bipush (v := (J 12)) d_R_kindHere_10 (by decide +kernel) ?_
  refine y_icmp_ge (tgt := 121) d_R_kindHere_12 (by decide) ?_ ?_
  · exact y_wk (loc2 := [some (.ref f0_), some (.int v1_), some (.int v2_), none, none, none]) ⟨rfl, ⟨rfl, ⟨rfl, trivial⟩⟩⟩ (hK121 h v1_ v2_)
  · refine y_iload_n d_R_kindHere_15 rfl ?_
    refine y_iconst (v := (J (-1))) d_R_kindHere_16 rfl ?_
    refine y_icmp_ne (tgt := 121) d_R_kindHere_17 (by decide) ?_ ?_
    · exact y_wk (loc2 := [some (.ref f0_), some (.int v1_), some (.int v2_), none, none, none]) ⟨rfl, ⟨rfl, ⟨rfl, trivial⟩⟩⟩ (hK121 h v1_ v2_)
    · refine y_iload_n d_R_kindHere_20 rfl ?_
      refine y_iconst (v := (J 1)) d_R_kindHere_21 rfl ?_
      refine y_iadd (v := (v3_ + (J 1))) d_R_kindHere_22 rfl ?_
      refine y_cI (c_st (rest := []) d_R_kindHere_23 k_R_startOf s_R_250 rfl rfl (Nat.le_of_ble_eq_true rfl) (Nat.le_trans (Nat.le_of_ble_eq_true rfl : 1 + 1 ≤ 5) hD) (S_R_startOf hfl (Nat.le_refl _) h (v3_ + (J 1)))) (fun v3 h2 => ?_)
      refine y_iload_n d_R_kindHere_26 rfl ?_
      refine y_cI (c_st (rest := [.int v3]) d_R_kindHere_27 k_R_startOf s_R_250 rfl rfl (Nat.le_of_ble_eq_true rfl) (Nat.le_trans (Nat.le_of_ble_eq_true rfl : 1 + 1 ≤ 5) hD) (S_R_startOf hfl (Nat.le_refl _) h2 v3_)) (fun v5 h4 => ?_)
      refine y_isub (v := (v3 - v5)) d_R_kindHere_30 rfl ?_
      refine y_istore (loc2 := [some (.ref f0_), some (.int v1_), some (.int v2_), some (.int v3_), some (.int (v3 - v5)), none]) d_R_kindHere_31 (Nat.le_of_ble_eq_true rfl) rfl rfl ?_
      refine y_iconst (v := (J 0)) d_R_kindHere_33 rfl ?_
      refine y_istore (loc2 := [some (.ref f0_), some (.int v1_), some (.int v2_), some (.int v3_), some (.int (v3 - v5)), some (.int (J 0))]) d_R_kindHere_34 (Nat.le_of_ble_eq_true rfl) rfl rfl ?_
      refine S_R_kindHere_36 hfl hD (fun h15 u16 => ?_) N h4 (J 0)
      refine y_iload_n d_R_kindHere_90 rfl ?_
      refine y_aload_n d_R_kindHere_91 rfl ?_
      refine y_getI d_R_kindHere_92 f_R_232 (fun v17 => ?_)
      refine y_iload d_R_kindHere_95 rfl ?_
      refine y_iadd (v := (v17 + u16)) d_R_kindHere_97 rfl ?_
      refine y_mmax d_R_kindHere_98 s_R_71.1 s_R_71.2 k_MA_max.2.2.2.2.2 (mG (2, 152) (by decide +kernel)) (Nat.le_of_ble_eq_true rfl) (Nat.le_trans (Nat.le_of_ble_eq_true rfl) hD) ?_
      refine y_istore_n (loc2 := [some (.ref f0_), some (.int (mxI v1_ (v17 + u16))), some (.int v2_), some (.int v3_), some (.int (v3 - v5)), some (.int u16)]) d_R_kindHere_101 (Nat.le_of_ble_eq_true rfl) rfl rfl ?_
      refine y_iload d_R_kindHere_102 rfl ?_
      refine y_iload d_R_kindHere_104 rfl ?_
      refine y_jn (C := fun (j9 : mH → Int32 → Option (Int32 × mH)) => ∀ (h19 : mH) (s20 : Int32), mY l Θ d M_R_kindHere 114 [some (.ref f0_), some (.int (mxI v1_ (v17 + u16))), none, some (.int v3_), none, none] [.int s20] h19 (tR vI) (j9 h19 s20)) (fun h19 s20 => ?_) (fun j18 Hj18 => ?_)
      · refine y_istore_n (loc2 := [some (.ref f0_), some (.int (mxI v1_ (v17 + u16))), some (.int s20), some (.int v3_), none, none]) d_R_kindHere_114 (Nat.le_of_ble_eq_true rfl) rfl rfl ?_
        refine y_iinc (v := (v3_ + (J 1))) (loc2 := [some (.ref f0_), some (.int (mxI v1_ (v17 + u16))), some (.int s20), some (.int (v3_ + (J 1))), none, none]) d_R_kindHere_115 rfl rfl (Nat.le_of_ble_eq_true rfl) rfl rfl ?_
        refine y_goto (tgt := 9) d_R_kindHere_118 (by decide) ?_
        exact ih h19 (mxI v1_ (v17 + u16)) s20 (v3_ + (J 1))
      · refine y_icmp_ne (tgt := 113) d_R_kindHere_106 (by decide) ?_ ?_
        · refine y_iload_n d_R_kindHere_113 rfl ?_
          exact y_wk (loc2 := [some (.ref f0_), some (.int (mxI v1_ (v17 + u16))), none, some (.int v3_), none, none]) ⟨rfl, ⟨rfl, ⟨rfl, trivial⟩⟩⟩ (Hj18 h15 v2_)
        · refine y_iload_n d_R_kindHere_109 rfl ?_
          refine y_goto (tgt := 114) d_R_kindHere_110 (by decide) ?_
          exact y_wk (loc2 := [some (.ref f0_), some (.int (mxI v1_ (v17 + u16))), none, some (.int v3_), none, none]) ⟨rfl, ⟨rfl, ⟨rfl, trivial⟩⟩⟩ (Hj18 h15 v3_)
theorem S_R_kindHere_9 (hfl : HF l Θ) (hD : 5 ≤ d) {K121 : mH → Int32 → Int32 → Option (Int32 × mH)} {f0_ : Nat}  (hK121 : ∀ (h : mH) (v1_ : Int32) (v2_ : Int32), mY l Θ d M_R_kindHere 121 [some (.ref f0_), some (.int v1_), some (.int v2_), none, none, none] [] h (tR vI) (K121 h v1_ v2_)) : ∀ (n : Nat) (h : mH) (v1_ : Int32) (v2_ : Int32) (v3_ : Int32), mY l Θ d M_R_kindHere 9 [some (.ref f0_), some (.int v1_), some (.int v2_), some (.int v3_), none, none] [] h (tR vI) (P_R_kindHere_9 Θ N K121 f0_ n h v1_ v2_ v3_) :=
  fun n => lp_all (C := fun (rc : mH → Int32 → Int32 → Int32 → Option (Int32 × mH)) => ∀ (h : mH) (v1_ : Int32) (v2_ : Int32) (v3_ : Int32), mY l Θ d M_R_kindHere 9 [some (.ref f0_), some (.int v1_), some (.int v2_), some (.int v3_), none, none] [] h (tR vI) (rc h v1_ v2_ v3_)) (fun _ _ _ _ => y_none) (fun rc ih => SB_R_kindHere_9 hfl hD hK121 rc ih) n
theorem S_R_kindHere (hfl : HF l Θ) (hD : 5 ≤ d) (h : mH) (a0 : Nat) : mMs l Θ d M_R_kindHere [.ref a0] h (tR vI) (P_R_kindHere Θ N h a0) := by
  refine mMs.of hfl (by decide +kernel) rfl (Nat.le_of_ble_eq_true rfl) (loc := [some (.ref a0), none, none, none, none, none]) rfl ?_
  unfold P_R_kindHere
  refine y_aload_n d_R_kindHere_0 rfl ?_
  refine y_getI d_R_kindHere_1 f_R_232 (fun v1 => ?_)
  refine y_istore_n (loc2 := [some (.ref a0), some (.int v1), none, none, none, none]) d_R_kindHere_4 (Nat.le_of_ble_eq_true rfl) rfl rfl ?_
  refine y_iconst (v := (J (-1))) d_R_kindHere_5 rfl ?_
  refine y_istore_n (loc2 := [some (.ref a0), some (.int v1), some (.int (J (-1))), none, none, none]) d_R_kindHere_6 (Nat.le_of_ble_eq_true rfl) rfl rfl ?_
  refine y_iconst (v := (J 0)) d_R_kindHere_7 rfl ?_
  refine y_istore_n (loc2 := [some (.ref a0), some (.int v1), some (.int (J (-1))), some (.int (J 0)), none, none]) d_R_kindHere_8 (Nat.le_of_ble_eq_true rfl) rfl rfl ?_
  refine S_R_kindHere_9 hfl hD (fun h21 u22 u23 => ?_) N h v1 (J (-1)) (J 0)
  refine y_aload_n d_R_kindHere_121 rfl ?_
  refine y_iload_n d_R_kindHere_122 rfl ?_
  refine y_iconst (v := (J (-1))) d_R_kindHere_123 rfl ?_
  refine y_jn (C := fun (j9 : mH → Int32 → Option (Int32 × mH)) => ∀ (h25 : mH) (s26 : Int32), mY l Θ d M_R_kindHere 135 [some (.ref a0), none, some (.int u23), none, none, none] [.int s26, .ref a0] h25 (tR vI) (j9 h25 s26)) (fun h25 s26 => ?_) (fun j24 Hj24 => ?_)
  · refine y_put d_R_kindHere_135 p_R_238 rfl rfl (fun h27 => ?_)
    refine y_aload_n d_R_kindHere_138 rfl ?_
    refine y_dup d_R_kindHere_139 rfl ?_
    refine y_getI d_R_kindHere_140 f_R_232 (fun v28 => ?_)
    refine y_iload_n d_R_kindHere_143 rfl ?_
    refine y_iconst (v := (J (-1))) d_R_kindHere_144 rfl ?_
    refine y_icmp_ne (tgt := 152) d_R_kindHere_145 (by decide) ?_ ?_
    · refine y_iload_n d_R_kindHere_152 rfl ?_
      refine y_iconst (v := (J 1)) d_R_kindHere_153 rfl ?_
      refine y_iadd (v := (u23 + (J 1))) d_R_kindHere_154 rfl ?_
      refine y_cI (c_st (rest := [.int v28, .ref a0]) d_R_kindHere_155 k_R_startOf s_R_250 rfl rfl (Nat.le_of_ble_eq_true rfl) (Nat.le_trans (Nat.le_of_ble_eq_true rfl : 1 + 1 ≤ 5) hD) (S_R_startOf hfl (Nat.le_refl _) h27 (u23 + (J 1)))) (fun v30 h29 => ?_)
      refine y_iload_n d_R_kindHere_158 rfl ?_
      refine y_cI (c_st (rest := [.int v30, .int v28, .ref a0]) d_R_kindHere_159 k_R_startOf s_R_250 rfl rfl (Nat.le_of_ble_eq_true rfl) (Nat.le_trans (Nat.le_of_ble_eq_true rfl : 1 + 1 ≤ 5) hD) (S_R_startOf hfl (Nat.le_refl _) h29 u23)) (fun v32 h31 => ?_)
      refine y_isub (v := (v30 - v32)) d_R_kindHere_162 rfl ?_
      refine y_iadd (v := (v28 + (v30 - v32))) d_R_kindHere_163 rfl ?_
      refine y_put d_R_kindHere_164 p_R_232 rfl rfl (fun h33 => ?_)
      refine y_iload_n d_R_kindHere_167 rfl ?_
      exact y_retI d_R_kindHere_168 rfl rfl
    · refine y_iconst (v := (J 0)) d_R_kindHere_148 rfl ?_
      refine y_goto (tgt := 163) d_R_kindHere_149 (by decide) ?_
      refine y_iadd (v := (v28 + (J 0))) d_R_kindHere_163 rfl ?_
      refine y_put d_R_kindHere_164 p_R_232 rfl rfl (fun h34 => ?_)
      refine y_iload_n d_R_kindHere_167 rfl ?_
      exact y_retI d_R_kindHere_168 rfl rfl
  · refine y_icmp_ne (tgt := 131) d_R_kindHere_124 (by decide) ?_ ?_
    · refine y_aload_n d_R_kindHere_131 rfl ?_
      refine y_getI d_R_kindHere_132 f_R_238 (fun v35 => ?_)
      exact y_wk (loc2 := [some (.ref a0), none, some (.int u23), none, none, none]) ⟨rfl, ⟨rfl, trivial⟩⟩ (Hj24 h21 v35)
    · refine y_iload_n d_R_kindHere_127 rfl ?_
      refine y_goto (tgt := 135) d_R_kindHere_128 (by decide) ?_
      exact y_wk (loc2 := [some (.ref a0), none, some (.int u23), none, none, none]) ⟨rfl, ⟨rfl, trivial⟩⟩ (Hj24 h21 u22)
noncomputable def B_R_number_11 (Θ : mW) (N : Nat) (K58 : mH → Int32 → Option (Int32 × mH)) (f0_ : Nat) (rc : mH → Int32 → Int32 → Option (Int32 × mH)) (h : mH) (v1_ : Int32) (v2_ : Int32) : Option (Int32 × mH) :=
  (if (J 3) ≤ v2_ then (K58 h v1_) else (bo (rI Θ h 9 f0_ 17) (fun v3 => (if v3 = (J (-1)) then (gO Θ h 9 f0_ (bc (P_R_letterHere Θ N h f0_) (fun v5 h4 => (bc (P_R_isIn Θ N h4 v5 (J 48) (J 57)) (fun v7 h6 => (if v7 = 0 then (K58 h6 v1_) else (gO Θ h6 9 f0_ (bc (P_R_reads Θ N h6 f0_ (J 48) (J 57)) (fun v9 h8 => (rc h8 (((J 10) * v1_) + v9) (v2_ + (J 1)))))))))))) else (K58 h v1_)))))
noncomputable def P_R_number_11 (Θ : mW) (N : Nat) (K58 : mH → Int32 → Option (Int32 × mH)) (f0_ : Nat) : Nat → mH → Int32 → Int32 → Option (Int32 × mH) :=
  lp (fun _ _ _ => none) (B_R_number_11 Θ N K58 f0_)
noncomputable def P_R_number (Θ : mW) (N : Nat) (h : mH) (a0 : Nat) : Option (Int32 × mH) :=
  (gO Θ h 9 a0 (bc (P_R_reads Θ N h a0 (J 48) (J 57)) (fun v2 h1 => (P_R_number_11 Θ N (fun h10 u11 => (some (u11, h10))) a0 N h1 v2 (J 1)))))
theorem SB_R_number_11 (hfl : HF l Θ) (hD : 3 ≤ d) {K58 : mH → Int32 → Option (Int32 × mH)} {f0_ : Nat}  (hK58 : ∀ (h : mH) (v1_ : Int32), mY l Θ d M_R_number 58 [none, some (.int v1_), none] [] h (tR vI) (K58 h v1_)) (rc : mH → Int32 → Int32 → Option (Int32 × mH)) (ih : ∀ (h : mH) (v1_ : Int32) (v2_ : Int32), mY l Θ d M_R_number 11 [some (.ref f0_), some (.int v1_), some (.int v2_)] [] h (tR vI) (rc h v1_ v2_)) : ∀ (h : mH) (v1_ : Int32) (v2_ : Int32), mY l Θ d M_R_number 11 [some (.ref f0_), some (.int v1_), some (.int v2_)] [] h (tR vI) (B_R_number_11 Θ N K58 f0_ rc h v1_ v2_) := by
  intro h v1_ v2_
  unfold B_R_number_11
  refine y_iload_n d_R_number_11 rfl ?_
  refine y_iconst (v := (J 3)) d_R_number_12 rfl ?_
  refine y_icmp_ge (tgt := 58) d_R_number_13 (by decide) ?_ ?_
  · exact y_wk (loc2 := [none, some (.int v1_), none]) ⟨rfl, trivial⟩ (hK58 h v1_)
  · refine y_aload_n d_R_number_16 rfl ?_
    refine y_getI d_R_number_17 f_R_238 (fun v3 => ?_)
    refine y_iconst (v := (J (-1))) d_R_number_20 rfl ?_
    refine y_icmp_ne (tgt := 58) d_R_number_21 (by decide) ?_ ?_
    · exact y_wk (loc2 := [none, some (.int v1_), none]) ⟨rfl, trivial⟩ (hK58 h v1_)
    · refine y_aload_n d_R_number_24 rfl ?_
      refine y_gO (fun fs1 g1 => y_cI (c_vi (rest := []) d_R_number_25 k_R_letterHere s_R_241 (Or.inl ⟨_, _, _, g1, rfl, rfl⟩) rfl rfl (Nat.le_of_ble_eq_true rfl) (Nat.le_trans (Nat.le_of_ble_eq_true rfl : 1 + 1 ≤ 3) hD) (S_R_letterHere hfl (Nat.le_refl _) h f0_)) (fun v5 h4 => ?_))
      refine y_bipush (v := (J 48)) d_R_number_28 (by decide +kernel) ?_
      refine y_bipush (v := (J 57)) d_R_number_30 (by decide +kernel) ?_
      refine y_cI (c_st (rest := []) d_R_number_32 k_R_isIn s_R_83 rfl rfl (Nat.le_of_ble_eq_true rfl) (Nat.le_trans (Nat.le_of_ble_eq_true rfl : 1 + 1 ≤ 3) hD) (S_R_isIn hfl (Nat.le_refl _) h4 v5 (J 48) (J 57))) (fun v7 h6 => ?_)
      refine y_if_eq (tgt := 58) d_R_number_35 (by decide) ?_ ?_
      · exact y_wk (loc2 := [none, some (.int v1_), none]) ⟨rfl, trivial⟩ (hK58 h6 v1_)
      · refine y_bipush (v := (J 10)) d_R_number_38 (by decide +kernel) ?_
        refine y_iload_n d_R_number_40 rfl ?_
        refine y_imul (v := ((J 10) * v1_)) d_R_number_41 rfl ?_
        refine y_aload_n d_R_number_42 rfl ?_
        refine y_bipush (v := (J 48)) d_R_number_43 (by decide +kernel) ?_
        refine y_bipush (v := (J 57)) d_R_number_45 (by decide +kernel) ?_
        refine y_gO (fun fs1 g1 => y_cI (c_vi (rest := [.int ((J 10) * v1_)]) d_R_number_47 k_R_reads s_R_244 (Or.inl ⟨_, _, _, g1, rfl, rfl⟩) rfl rfl (Nat.le_of_ble_eq_true rfl) (Nat.le_trans (Nat.le_of_ble_eq_true rfl : 2 + 1 ≤ 3) hD) (S_R_reads hfl (Nat.le_refl _) h6 f0_ (J 48) (J 57))) (fun v9 h8 => ?_))
        refine y_iadd (v := (((J 10) * v1_) + v9)) d_R_number_50 rfl ?_
        refine y_istore_n (loc2 := [some (.ref f0_), some (.int (((J 10) * v1_) + v9)), some (.int v2_)]) d_R_number_51 (Nat.le_of_ble_eq_true rfl) rfl rfl ?_
        refine y_iinc (v := (v2_ + (J 1))) (loc2 := [some (.ref f0_), some (.int (((J 10) * v1_) + v9)), some (.int (v2_ + (J 1)))]) d_R_number_52 rfl rfl (Nat.le_of_ble_eq_true rfl) rfl rfl ?_
        refine y_goto (tgt := 11) d_R_number_55 (by decide) ?_
        exact ih h8 (((J 10) * v1_) + v9) (v2_ + (J 1))
theorem S_R_number_11 (hfl : HF l Θ) (hD : 3 ≤ d) {K58 : mH → Int32 → Option (Int32 × mH)} {f0_ : Nat}  (hK58 : ∀ (h : mH) (v1_ : Int32), mY l Θ d M_R_number 58 [none, some (.int v1_), none] [] h (tR vI) (K58 h v1_)) : ∀ (n : Nat) (h : mH) (v1_ : Int32) (v2_ : Int32), mY l Θ d M_R_number 11 [some (.ref f0_), some (.int v1_), some (.int v2_)] [] h (tR vI) (P_R_number_11 Θ N K58 f0_ n h v1_ v2_) :=
  fun n => lp_all (C := fun (rc : mH → Int32 → Int32 → Option (Int32 × mH)) => ∀ (h : mH) (v1_ : Int32) (v2_ : Int32), mY l Θ d M_R_number 11 [some (.ref f0_), some (.int v1_), some (.int v2_)] [] h (tR vI) (rc h v1_ v2_)) (fun _ _ _ => y_none) (fun rc ih => SB_R_number_11 hfl hD hK58 rc ih) n
theorem S_R_number (hfl : HF l Θ) (hD : 3 ≤ d) (h : mH) (a0 : Nat) : mMs l Θ d M_R_number [.ref a0] h (tR vI) (P_R_number Θ N h a0) := by
  refine mMs.of hfl (by decide +kernel) rfl (Nat.le_of_ble_eq_true rfl) (loc := [some (.ref a0), none, none]) rfl ?_
  unfold P_R_number
  refine y_aload_n d_R_number_0 rfl ?_
  refine y_bipush (v := (J 48)) d_R_number_1 (by decide +kernel) ?_
  refine y_bipush (v := (J 57)) d_R_number_3 (by decide +kernel) ?_
  refine y_gO (fun fs1 g1 => y_cI (c_vi (rest := []) d_R_number_5 k_R_reads s_R_244 (Or.inl ⟨_, _, _, g1, rfl, rfl⟩) rfl rfl (Nat.le_of_ble_eq_true rfl) (Nat.le_trans (Nat.le_of_ble_eq_true rfl : 2 + 1 ≤ 3) hD) (S_R_reads hfl (Nat.le_refl _) h a0 (J 48) (J 57))) (fun v2 h1 => ?_))
  refine y_istore_n (loc2 := [some (.ref a0), some (.int v2), none]) d_R_number_8 (Nat.le_of_ble_eq_true rfl) rfl rfl ?_
  refine y_iconst (v := (J 1)) d_R_number_9 rfl ?_
  refine y_istore_n (loc2 := [some (.ref a0), some (.int v2), some (.int (J 1))]) d_R_number_10 (Nat.le_of_ble_eq_true rfl) rfl rfl ?_
  refine S_R_number_11 hfl hD (fun h10 u11 => ?_) N h1 v2 (J 1)
  refine y_iload_n d_R_number_58 rfl ?_
  exact y_retI d_R_number_59 rfl rfl
noncomputable def P_R_numberBehind (Θ : mW) (N : Nat) (h : mH) (a0 : Nat) (a1 : Int32) : Option (Int32 × mH) :=
  (gO Θ h 9 a0 (bc (P_R_reads Θ N h a0 a1 a1) (fun v2 h1 => (gO Θ h1 9 a0 (bc (P_R_number Θ N h1 a0) (fun v4 h3 => (some (v4, h3))))))))
theorem S_R_numberBehind (hfl : HF l Θ) (hD : 4 ≤ d) (h : mH) (a0 : Nat) (a1 : Int32) : mMs l Θ d M_R_numberBehind [.ref a0, .int a1] h (tR vI) (P_R_numberBehind Θ N h a0 a1) := by
  refine mMs.of hfl (by decide +kernel) rfl (Nat.le_of_ble_eq_true rfl) (loc := [some (.ref a0), some (.int a1), none]) rfl ?_
  unfold P_R_numberBehind
  refine y_aload_n d_R_numberBehind_0 rfl ?_
  refine y_iload_n d_R_numberBehind_1 rfl ?_
  refine y_iload_n d_R_numberBehind_2 rfl ?_
  refine y_gO (fun fs1 g1 => y_cI (c_vi (rest := []) d_R_numberBehind_3 k_R_reads s_R_244 (Or.inl ⟨_, _, _, g1, rfl, rfl⟩) rfl rfl (Nat.le_of_ble_eq_true rfl) (Nat.le_trans (Nat.le_of_ble_eq_true rfl : 2 + 1 ≤ 4) hD) (S_R_reads hfl (Nat.le_refl _) h a0 a1 a1)) (fun v2 h1 => ?_))
  refine y_istore_n (loc2 := [some (.ref a0), some (.int a1), some (.int v2)]) d_R_numberBehind_6 (Nat.le_of_ble_eq_true rfl) rfl rfl ?_
  refine y_aload_n d_R_numberBehind_7 rfl ?_
  refine y_gO (fun fs1 g1 => y_cI (c_vi (rest := []) d_R_numberBehind_8 k_R_number s_R_247 (Or.inl ⟨_, _, _, g1, rfl, rfl⟩) rfl rfl (Nat.le_of_ble_eq_true rfl) (Nat.le_trans (Nat.le_of_ble_eq_true rfl : 3 + 1 ≤ 4) hD) (S_R_number hfl (Nat.le_refl _) h1 a0)) (fun v4 h3 => ?_))
  exact y_retI d_R_numberBehind_11 rfl rfl
noncomputable def P_R_readsCommand (Θ : mW) (N : Nat) (h : mH) (a0 : Nat) : Option (Unit × mH) :=
  (bo (rI Θ h 9 a0 18) (fun v1 => (gO Θ h 9 a0 (bc (P_R_kindHere Θ N h a0) (fun v3 h2 => (bo (rA Θ h2 9 a0 19) (fun v4 => (bo (aW Θ h2 0 v4 ((J 4) * v1) v3) (fun h5 => (bo (rI Θ h5 9 a0 18) (fun v6 => (bo (wF Θ h5 9 a0 18 (.int (v6 + (J 1)))) (fun h7 => (bo (rI Θ h7 9 a0 17) (fun v8 => (if v8 = (J (-1)) then (if v3 = (J 5) then (some ((), h7)) else (if v3 = (J 6) then (some ((), h7)) else (jn (fun (h10 : mH) (s11 : Int32) => (bo (rA Θ h10 9 a0 19) (fun v12 => (jn (fun (h14 : mH) (s15 : Int32) => (bo (aW Θ h14 0 v12 (((J 4) * v1) + (J 1)) s15) (fun h16 => (jn (fun (h18 : mH) => (jn (fun (h20 : mH) => (bo (rA Θ h20 9 a0 19) (fun v21 => (jn (fun (h23 : mH) (s24 : Int32) => (gO Θ h23 9 a0 (bc (P_R_numberBehind Θ N h23 a0 s24) (fun v26 h25 => (bo (aW Θ h25 0 v21 (((J 4) * v1) + (J 2)) v26) (fun h27 => (some ((), h27)))))))) (fun j22 => (if v3 = (J 1) then (j22 h20 (J 64)) else (j22 h20 (J 43)))))))) (fun j19 => (if v3 = (J 1) then (j19 h18) else (if v3 = (J 11) then (j19 h18) else (some ((), h18))))))) (fun j17 => (if v3 = 0 then (bo (rA Θ h16 9 a0 19) (fun v28 => (gO Θ h16 9 a0 (bc (P_R_numberBehind Θ N h16 a0 (J 32)) (fun v30 h29 => (bo (aW Θ h29 0 v28 (((J 4) * v1) + (J 2)) v30) (fun h31 => (bo (rA Θ h31 9 a0 19) (fun v32 => (gO Θ h31 9 a0 (bc (P_R_numberBehind Θ N h31 a0 (J 32)) (fun v34 h33 => (bo (aW Θ h33 0 v32 (((J 4) * v1) + (J 3)) v34) (fun h35 => (j17 h35))))))))))))))) else (j17 h16))))))) (fun j13 => (if s11 = 0 then (gO Θ h10 9 a0 (bc (P_R_number Θ N h10 a0) (fun v37 h36 => (j13 h36 v37)))) else (gO Θ h10 9 a0 (bc (P_R_numberBehind Θ N h10 a0 (J 45)) (fun v39 h38 => (j13 h38 (-v39))))))))))) (fun j9 => (jn (fun (h41 : mH) => (j9 h41 (J 0))) (fun j40 => (if v3 = (J 7) then (gO Θ h7 9 a0 (bc (P_R_letterHere Θ N h7 a0) (fun v43 h42 => (if v43 = (J 45) then (j9 h42 (J 1)) else (j40 h42))))) else (j40 h7)))))))) else (some ((), h7))))))))))))))))))
theorem S_R_readsCommand (hfl : HF l Θ) (hD : 6 ≤ d) (h : mH) (a0 : Nat) : mMs l Θ d M_R_readsCommand [.ref a0] h (tR vU) (P_R_readsCommand Θ N h a0) := by
  refine mMs.of hfl (by decide +kernel) rfl (Nat.le_of_ble_eq_true rfl) (loc := [some (.ref a0), none, none, none]) rfl ?_
  unfold P_R_readsCommand
  refine y_iconst (v := (J 4)) d_R_readsCommand_0 rfl ?_
  refine y_aload_n d_R_readsCommand_1 rfl ?_
  refine y_getI d_R_readsCommand_2 f_R_261 (fun v1 => ?_)
  refine y_imul (v := ((J 4) * v1)) d_R_readsCommand_5 rfl ?_
  refine y_istore_n (loc2 := [some (.ref a0), some (.int ((J 4) * v1)), none, none]) d_R_readsCommand_6 (Nat.le_of_ble_eq_true rfl) rfl rfl ?_
  refine y_aload_n d_R_readsCommand_7 rfl ?_
  refine y_gO (fun fs1 g1 => y_cI (c_vi (rest := []) d_R_readsCommand_8 k_R_kindHere s_R_264 (Or.inl ⟨_, _, _, g1, rfl, rfl⟩) rfl rfl (Nat.le_of_ble_eq_true rfl) (Nat.le_trans (Nat.le_of_ble_eq_true rfl : 5 + 1 ≤ 6) hD) (S_R_kindHere hfl (Nat.le_refl _) h a0)) (fun v3 h2 => ?_))
  refine y_istore_n (loc2 := [some (.ref a0), some (.int ((J 4) * v1)), some (.int v3), none]) d_R_readsCommand_11 (Nat.le_of_ble_eq_true rfl) rfl rfl ?_
  refine y_aload_n d_R_readsCommand_12 rfl ?_
  refine y_getA d_R_readsCommand_13 f_R_39 (fun v4 => ?_)
  refine y_iload_n d_R_readsCommand_16 rfl ?_
  refine y_iload_n d_R_readsCommand_17 rfl ?_
  refine y_iast d_R_readsCommand_18 (fun h5 => ?_)
  refine y_aload_n d_R_readsCommand_19 rfl ?_
  refine y_dup d_R_readsCommand_20 rfl ?_
  refine y_getI d_R_readsCommand_21 f_R_261 (fun v6 => ?_)
  refine y_iconst (v := (J 1)) d_R_readsCommand_24 rfl ?_
  refine y_iadd (v := (v6 + (J 1))) d_R_readsCommand_25 rfl ?_
  refine y_put d_R_readsCommand_26 p_R_261 rfl rfl (fun h7 => ?_)
  refine y_aload_n d_R_readsCommand_29 rfl ?_
  refine y_getI d_R_readsCommand_30 f_R_238 (fun v8 => ?_)
  refine y_iconst (v := (J (-1))) d_R_readsCommand_33 rfl ?_
  refine y_icmp_ne (tgt := 48) d_R_readsCommand_34 (by decide) ?_ ?_
  · exact y_retU d_R_readsCommand_48 rfl
  · refine y_iload_n d_R_readsCommand_37 rfl ?_
    refine y_iconst (v := (J 5)) d_R_readsCommand_38 rfl ?_
    refine y_icmp_eq (tgt := 48) d_R_readsCommand_39 (by decide) ?_ ?_
    · exact y_retU d_R_readsCommand_48 rfl
    · refine y_iload_n d_R_readsCommand_42 rfl ?_
      refine y_bipush (v := (J 6)) d_R_readsCommand_43 (by decide +kernel) ?_
      refine y_icmp_ne (tgt := 49) d_R_readsCommand_45 (by decide) ?_ ?_
      · refine y_iload_n d_R_readsCommand_49 rfl ?_
        refine y_bipush (v := (J 7)) d_R_readsCommand_50 (by decide +kernel) ?_
        refine y_jn (C := fun (j9 : mH → Int32 → Option (Unit × mH)) => ∀ (h10 : mH) (s11 : Int32), mY l Θ d M_R_readsCommand 69 [some (.ref a0), some (.int ((J 4) * v1)), some (.int v3), none] [.int s11] h10 (tR vU) (j9 h10 s11)) (fun h10 s11 => ?_) (fun j9 Hj9 => ?_)
        · refine y_istore_n (loc2 := [some (.ref a0), some (.int ((J 4) * v1)), some (.int v3), some (.int s11)]) d_R_readsCommand_69 (Nat.le_of_ble_eq_true rfl) rfl rfl ?_
          refine y_aload_n d_R_readsCommand_70 rfl ?_
          refine y_getA d_R_readsCommand_71 f_R_39 (fun v12 => ?_)
          refine y_iload_n d_R_readsCommand_74 rfl ?_
          refine y_iconst (v := (J 1)) d_R_readsCommand_75 rfl ?_
          refine y_iadd (v := (((J 4) * v1) + (J 1))) d_R_readsCommand_76 rfl ?_
          refine y_iload_n d_R_readsCommand_77 rfl ?_
          refine y_jn (C := fun (j9 : mH → Int32 → Option (Unit × mH)) => ∀ (h14 : mH) (s15 : Int32), mY l Θ d M_R_readsCommand 95 [some (.ref a0), some (.int ((J 4) * v1)), some (.int v3), none] [.int s15, .int (((J 4) * v1) + (J 1)), .ref v12] h14 (tR vU) (j9 h14 s15)) (fun h14 s15 => ?_) (fun j13 Hj13 => ?_)
          · refine y_iast d_R_readsCommand_95 (fun h16 => ?_)
            refine y_iload_n d_R_readsCommand_96 rfl ?_
            refine y_jn (C := fun (j9 : mH → Option (Unit × mH)) => ∀ (h18 : mH), mY l Θ d M_R_readsCommand 128 [some (.ref a0), some (.int ((J 4) * v1)), some (.int v3), none] [] h18 (tR vU) (j9 h18)) (fun h18 => ?_) (fun j17 Hj17 => ?_)
            · refine y_iload_n d_R_readsCommand_128 rfl ?_
              refine y_iconst (v := (J 1)) d_R_readsCommand_129 rfl ?_
              refine y_jn (C := fun (j9 : mH → Option (Unit × mH)) => ∀ (h20 : mH), mY l Θ d M_R_readsCommand 139 [some (.ref a0), some (.int ((J 4) * v1)), some (.int v3), none] [] h20 (tR vU) (j9 h20)) (fun h20 => ?_) (fun j19 Hj19 => ?_)
              · refine y_aload_n d_R_readsCommand_139 rfl ?_
                refine y_getA d_R_readsCommand_140 f_R_39 (fun v21 => ?_)
                refine y_iload_n d_R_readsCommand_143 rfl ?_
                refine y_iconst (v := (J 2)) d_R_readsCommand_144 rfl ?_
                refine y_iadd (v := (((J 4) * v1) + (J 2))) d_R_readsCommand_145 rfl ?_
                refine y_aload_n d_R_readsCommand_146 rfl ?_
                refine y_iload_n d_R_readsCommand_147 rfl ?_
                refine y_iconst (v := (J 1)) d_R_readsCommand_148 rfl ?_
                refine y_jn (C := fun (j9 : mH → Int32 → Option (Unit × mH)) => ∀ (h23 : mH) (s24 : Int32), mY l Θ d M_R_readsCommand 159 [none, none, none, none] [.int s24, .ref a0, .int (((J 4) * v1) + (J 2)), .ref v21] h23 (tR vU) (j9 h23 s24)) (fun h23 s24 => ?_) (fun j22 Hj22 => ?_)
                · refine y_gO (fun fs1 g1 => y_cI (c_vi (rest := [.int (((J 4) * v1) + (J 2)), .ref v21]) d_R_readsCommand_159 k_R_numberBehind s_R_267 (Or.inl ⟨_, _, _, g1, rfl, rfl⟩) rfl rfl (Nat.le_of_ble_eq_true rfl) (Nat.le_trans (Nat.le_of_ble_eq_true rfl : 4 + 1 ≤ 6) hD) (S_R_numberBehind hfl (Nat.le_refl _) h23 a0 s24)) (fun v26 h25 => ?_))
                  refine y_iast d_R_readsCommand_162 (fun h27 => ?_)
                  exact y_retU d_R_readsCommand_163 rfl
                · refine y_icmp_ne (tgt := 157) d_R_readsCommand_149 (by decide) ?_ ?_
                  · refine y_bipush (v := (J 43)) d_R_readsCommand_157 (by decide +kernel) ?_
                    exact y_wk (loc2 := [none, none, none, none]) trivial (Hj22 h20 (J 43))
                  · refine y_bipush (v := (J 64)) d_R_readsCommand_152 (by decide +kernel) ?_
                    refine y_goto (tgt := 159) d_R_readsCommand_154 (by decide) ?_
                    exact y_wk (loc2 := [none, none, none, none]) trivial (Hj22 h20 (J 64))
              · refine y_icmp_eq (tgt := 139) d_R_readsCommand_130 (by decide) ?_ ?_
                · exact Hj19 h18
                · refine y_iload_n d_R_readsCommand_133 rfl ?_
                  refine y_bipush (v := (J 11)) d_R_readsCommand_134 (by decide +kernel) ?_
                  refine y_icmp_ne (tgt := 163) d_R_readsCommand_136 (by decide) ?_ ?_
                  · exact y_retU d_R_readsCommand_163 rfl
                  · exact Hj19 h18
            · refine y_if_ne (tgt := 128) d_R_readsCommand_97 (by decide) ?_ ?_
              · exact Hj17 h16
              · refine y_aload_n d_R_readsCommand_100 rfl ?_
                refine y_getA d_R_readsCommand_101 f_R_39 (fun v28 => ?_)
                refine y_iload_n d_R_readsCommand_104 rfl ?_
                refine y_iconst (v := (J 2)) d_R_readsCommand_105 rfl ?_
                refine y_iadd (v := (((J 4) * v1) + (J 2))) d_R_readsCommand_106 rfl ?_
                refine y_aload_n d_R_readsCommand_107 rfl ?_
                refine y_bipush (v := (J 32)) d_R_readsCommand_108 (by decide +kernel) ?_
                refine y_gO (fun fs1 g1 => y_cI (c_vi (rest := [.int (((J 4) * v1) + (J 2)), .ref v28]) d_R_readsCommand_110 k_R_numberBehind s_R_267 (Or.inl ⟨_, _, _, g1, rfl, rfl⟩) rfl rfl (Nat.le_of_ble_eq_true rfl) (Nat.le_trans (Nat.le_of_ble_eq_true rfl : 4 + 1 ≤ 6) hD) (S_R_numberBehind hfl (Nat.le_refl _) h16 a0 (J 32))) (fun v30 h29 => ?_))
                refine y_iast d_R_readsCommand_113 (fun h31 => ?_)
                refine y_aload_n d_R_readsCommand_114 rfl ?_
                refine y_getA d_R_readsCommand_115 f_R_39 (fun v32 => ?_)
                refine y_iload_n d_R_readsCommand_118 rfl ?_
                refine y_iconst (v := (J 3)) d_R_readsCommand_119 rfl ?_
                refine y_iadd (v := (((J 4) * v1) + (J 3))) d_R_readsCommand_120 rfl ?_
                refine y_aload_n d_R_readsCommand_121 rfl ?_
                refine y_bipush (v := (J 32)) d_R_readsCommand_122 (by decide +kernel) ?_
                refine y_gO (fun fs1 g1 => y_cI (c_vi (rest := [.int (((J 4) * v1) + (J 3)), .ref v32]) d_R_readsCommand_124 k_R_numberBehind s_R_267 (Or.inl ⟨_, _, _, g1, rfl, rfl⟩) rfl rfl (Nat.le_of_ble_eq_true rfl) (Nat.le_trans (Nat.le_of_ble_eq_true rfl : 4 + 1 ≤ 6) hD) (S_R_numberBehind hfl (Nat.le_refl _) h31 a0 (J 32))) (fun v34 h33 => ?_))
                refine y_iast d_R_readsCommand_127 (fun h35 => ?_)
                exact Hj17 h35
          · refine y_if_eq (tgt := 91) d_R_readsCommand_78 (by decide) ?_ ?_
            · refine y_aload_n d_R_readsCommand_91 rfl ?_
              refine y_gO (fun fs1 g1 => y_cI (c_vi (rest := [.int (((J 4) * v1) + (J 1)), .ref v12]) d_R_readsCommand_92 k_R_number s_R_247 (Or.inl ⟨_, _, _, g1, rfl, rfl⟩) rfl rfl (Nat.le_of_ble_eq_true rfl) (Nat.le_trans (Nat.le_of_ble_eq_true rfl : 3 + 1 ≤ 6) hD) (S_R_number hfl (Nat.le_refl _) h10 a0)) (fun v37 h36 => ?_))
              exact y_wk (loc2 := [some (.ref a0), some (.int ((J 4) * v1)), some (.int v3), none]) ⟨rfl, ⟨rfl, ⟨rfl, trivial⟩⟩⟩ (Hj13 h36 v37)
            · refine y_aload_n d_R_readsCommand_81 rfl ?_
              refine y_bipush (v := (J 45)) d_R_readsCommand_82 (by decide +kernel) ?_
              refine y_gO (fun fs1 g1 => y_cI (c_vi (rest := [.int (((J 4) * v1) + (J 1)), .ref v12]) d_R_readsCommand_84 k_R_numberBehind s_R_267 (Or.inl ⟨_, _, _, g1, rfl, rfl⟩) rfl rfl (Nat.le_of_ble_eq_true rfl) (Nat.le_trans (Nat.le_of_ble_eq_true rfl : 4 + 1 ≤ 6) hD) (S_R_numberBehind hfl (Nat.le_refl _) h10 a0 (J 45))) (fun v39 h38 => ?_))
              refine y_ineg (v := (-v39)) d_R_readsCommand_87 rfl ?_
              refine y_goto (tgt := 95) d_R_readsCommand_88 (by decide) ?_
              exact y_wk (loc2 := [some (.ref a0), some (.int ((J 4) * v1)), some (.int v3), none]) ⟨rfl, ⟨rfl, ⟨rfl, trivial⟩⟩⟩ (Hj13 h38 (-v39))
        · refine y_jn (C := fun (j9 : mH → Option (Unit × mH)) => ∀ (h41 : mH), mY l Θ d M_R_readsCommand 68 [some (.ref a0), some (.int ((J 4) * v1)), some (.int v3), none] [] h41 (tR vU) (j9 h41)) (fun h41 => ?_) (fun j40 Hj40 => ?_)
          · refine y_iconst (v := (J 0)) d_R_readsCommand_68 rfl ?_
            exact Hj9 h41 (J 0)
          · refine y_icmp_ne (tgt := 68) d_R_readsCommand_52 (by decide) ?_ ?_
            · exact Hj40 h7
            · refine y_aload_n d_R_readsCommand_55 rfl ?_
              refine y_gO (fun fs1 g1 => y_cI (c_vi (rest := []) d_R_readsCommand_56 k_R_letterHere s_R_241 (Or.inl ⟨_, _, _, g1, rfl, rfl⟩) rfl rfl (Nat.le_of_ble_eq_true rfl) (Nat.le_trans (Nat.le_of_ble_eq_true rfl : 1 + 1 ≤ 6) hD) (S_R_letterHere hfl (Nat.le_refl _) h7 a0)) (fun v43 h42 => ?_))
              refine y_bipush (v := (J 45)) d_R_readsCommand_59 (by decide +kernel) ?_
              refine y_icmp_ne (tgt := 68) d_R_readsCommand_61 (by decide) ?_ ?_
              · exact Hj40 h42
              · refine y_iconst (v := (J 1)) d_R_readsCommand_64 rfl ?_
                refine y_goto (tgt := 69) d_R_readsCommand_65 (by decide) ?_
                exact Hj9 h42 (J 1)
      · exact y_retU d_R_readsCommand_48 rfl
noncomputable def B_R_readsAll_32 (Θ : mW) (N : Nat) (K75 : mH → Option (Unit × mH)) (f0_ : Nat) (rc : mH → Option (Unit × mH)) (h : mH) : Option (Unit × mH) :=
  (bo (rI Θ h 9 f0_ 17) (fun v9 => (if v9 = (J (-1)) then (bo (rI Θ h 9 f0_ 16) (fun v10 => (bo (rI Θ h 9 f0_ 15) (fun v11 => (if v11 ≤ v10 then (K75 h) else (gO Θ h 9 f0_ (bc (P_R_reads Θ N h f0_ (J 59) (J 59)) (fun v13 h12 => (bo (rI Θ h12 9 f0_ 17) (fun v14 => (jn (fun (h16 : mH) => (rc h16)) (fun j15 => (if v14 = (J (-1)) then (gO Θ h12 9 f0_ (bc (P_R_readsCommand Θ N h12 f0_) (fun v18 h17 => (j15 h17)))) else (j15 h12)))))))))))))) else (K75 h))))
noncomputable def P_R_readsAll_32 (Θ : mW) (N : Nat) (K75 : mH → Option (Unit × mH)) (f0_ : Nat) : Nat → mH → Option (Unit × mH) :=
  lp (fun _ => none) (B_R_readsAll_32 Θ N K75 f0_)
noncomputable def P_R_readsAll (Θ : mW) (N : Nat) (h : mH) (a0 : Nat) : Option (Unit × mH) :=
  (bo (rI Θ h 9 a0 10) (fun v1 => (bo (wF Θ h 9 a0 15 (.int v1)) (fun h2 => (bo (wF Θ h2 9 a0 10 (.int (J 0))) (fun h3 => (bo (wF Θ h3 9 a0 16 (.int (J 0))) (fun h4 => (bo (wF Θ h4 9 a0 17 (.int (J (-1)))) (fun h5 => (bo (wF Θ h5 9 a0 18 (.int (J 0))) (fun h6 => (gO Θ h6 9 a0 (bc (P_R_readsCommand Θ N h6 a0) (fun v8 h7 => (P_R_readsAll_32 Θ N (fun h19 => (some ((), h19))) a0 N h7))))))))))))))))
theorem SB_R_readsAll_32 (hfl : HF l Θ) (hD : 7 ≤ d) {K75 : mH → Option (Unit × mH)} {f0_ : Nat}  (hK75 : ∀ (h : mH), mY l Θ d M_R_readsAll 75 [none, none] [] h (tR vU) (K75 h)) (rc : mH → Option (Unit × mH)) (ih : ∀ (h : mH), mY l Θ d M_R_readsAll 32 [some (.ref f0_), none] [] h (tR vU) (rc h)) : ∀ (h : mH), mY l Θ d M_R_readsAll 32 [some (.ref f0_), none] [] h (tR vU) (B_R_readsAll_32 Θ N K75 f0_ rc h) := by
  intro h
  unfold B_R_readsAll_32
  refine y_aload_n d_R_readsAll_32 rfl ?_
  refine y_getI d_R_readsAll_33 f_R_238 (fun v9 => ?_)
  refine y_iconst (v := (J (-1))) d_R_readsAll_36 rfl ?_
  refine y_icmp_ne (tgt := 75) d_R_readsAll_37 (by decide) ?_ ?_
  · exact y_wk (loc2 := [none, none]) trivial (hK75 h)
  · refine y_aload_n d_R_readsAll_40 rfl ?_
    refine y_getI d_R_readsAll_41 f_R_232 (fun v10 => ?_)
    refine y_aload_n d_R_readsAll_44 rfl ?_
    refine y_getI d_R_readsAll_45 f_R_235 (fun v11 => ?_)
    refine y_icmp_ge (tgt := 75) d_R_readsAll_48 (by decide) ?_ ?_
    · exact y_wk (loc2 := [none, none]) trivial (hK75 h)
    · refine y_aload_n d_R_readsAll_51 rfl ?_
      refine y_bipush (v := (J 59)) d_R_readsAll_52 (by decide +kernel) ?_
      refine y_bipush (v := (J 59)) d_R_readsAll_54 (by decide +kernel) ?_
      refine y_gO (fun fs1 g1 => y_cI (c_vi (rest := []) d_R_readsAll_56 k_R_reads s_R_244 (Or.inl ⟨_, _, _, g1, rfl, rfl⟩) rfl rfl (Nat.le_of_ble_eq_true rfl) (Nat.le_trans (Nat.le_of_ble_eq_true rfl : 2 + 1 ≤ 7) hD) (S_R_reads hfl (Nat.le_refl _) h f0_ (J 59) (J 59))) (fun v13 h12 => ?_))
      refine y_istore_n (loc2 := [some (.ref f0_), some (.int v13)]) d_R_readsAll_59 (Nat.le_of_ble_eq_true rfl) rfl rfl ?_
      refine y_aload_n d_R_readsAll_60 rfl ?_
      refine y_getI d_R_readsAll_61 f_R_238 (fun v14 => ?_)
      refine y_iconst (v := (J (-1))) d_R_readsAll_64 rfl ?_
      refine y_jn (C := fun (j9 : mH → Option (Unit × mH)) => ∀ (h16 : mH), mY l Θ d M_R_readsAll 72 [some (.ref f0_), none] [] h16 (tR vU) (j9 h16)) (fun h16 => ?_) (fun j15 Hj15 => ?_)
      · refine y_goto (tgt := 32) d_R_readsAll_72 (by decide) ?_
        exact ih h16
      · refine y_icmp_ne (tgt := 72) d_R_readsAll_65 (by decide) ?_ ?_
        · exact y_wk (loc2 := [some (.ref f0_), none]) ⟨rfl, trivial⟩ (Hj15 h12)
        · refine y_aload_n d_R_readsAll_68 rfl ?_
          refine y_gO (fun fs1 g1 => y_cU (c_vi (rest := []) d_R_readsAll_69 k_R_readsCommand s_R_270 (Or.inl ⟨_, _, _, g1, rfl, rfl⟩) rfl rfl (Nat.le_of_ble_eq_true rfl) (Nat.le_trans (Nat.le_of_ble_eq_true rfl : 6 + 1 ≤ 7) hD) (S_R_readsCommand hfl (Nat.le_refl _) h12 f0_)) (fun v18 h17 => ?_))
          exact y_wk (loc2 := [some (.ref f0_), none]) ⟨rfl, trivial⟩ (Hj15 h17)
theorem S_R_readsAll_32 (hfl : HF l Θ) (hD : 7 ≤ d) {K75 : mH → Option (Unit × mH)} {f0_ : Nat}  (hK75 : ∀ (h : mH), mY l Θ d M_R_readsAll 75 [none, none] [] h (tR vU) (K75 h)) : ∀ (n : Nat) (h : mH), mY l Θ d M_R_readsAll 32 [some (.ref f0_), none] [] h (tR vU) (P_R_readsAll_32 Θ N K75 f0_ n h) :=
  fun n => lp_all (C := fun (rc : mH → Option (Unit × mH)) => ∀ (h : mH), mY l Θ d M_R_readsAll 32 [some (.ref f0_), none] [] h (tR vU) (rc h)) (fun _ => y_none) (fun rc ih => SB_R_readsAll_32 hfl hD hK75 rc ih) n
theorem S_R_readsAll (hfl : HF l Θ) (hD : 7 ≤ d) (h : mH) (a0 : Nat) : mMs l Θ d M_R_readsAll [.ref a0] h (tR vU) (P_R_readsAll Θ N h a0) := by
  refine mMs.of hfl (by decide +kernel) rfl (Nat.le_of_ble_eq_true rfl) (loc := [some (.ref a0), none]) rfl ?_
  unfold P_R_readsAll
  refine y_aload_n d_R_readsAll_0 rfl ?_
  refine y_aload_n d_R_readsAll_1 rfl ?_
  refine y_getI d_R_readsAll_2 f_R_229 (fun v1 => ?_)
  refine y_put d_R_readsAll_5 p_R_235 rfl rfl (fun h2 => ?_)
  refine y_aload_n d_R_readsAll_8 rfl ?_
  refine y_iconst (v := (J 0)) d_R_readsAll_9 rfl ?_
  refine y_put d_R_readsAll_10 p_R_229 rfl rfl (fun h3 => ?_)
  refine y_aload_n d_R_readsAll_13 rfl ?_
  refine y_iconst (v := (J 0)) d_R_readsAll_14 rfl ?_
  refine y_put d_R_readsAll_15 p_R_232 rfl rfl (fun h4 => ?_)
  refine y_aload_n d_R_readsAll_18 rfl ?_
  refine y_iconst (v := (J (-1))) d_R_readsAll_19 rfl ?_
  refine y_put d_R_readsAll_20 p_R_238 rfl rfl (fun h5 => ?_)
  refine y_aload_n d_R_readsAll_23 rfl ?_
  refine y_iconst (v := (J 0)) d_R_readsAll_24 rfl ?_
  refine y_put d_R_readsAll_25 p_R_261 rfl rfl (fun h6 => ?_)
  refine y_aload_n d_R_readsAll_28 rfl ?_
  refine y_gO (fun fs1 g1 => y_cU (c_vi (rest := []) d_R_readsAll_29 k_R_readsCommand s_R_270 (Or.inl ⟨_, _, _, g1, rfl, rfl⟩) rfl rfl (Nat.le_of_ble_eq_true rfl) (Nat.le_trans (Nat.le_of_ble_eq_true rfl : 6 + 1 ≤ 7) hD) (S_R_readsCommand hfl (Nat.le_refl _) h6 a0)) (fun v8 h7 => ?_))
  refine S_R_readsAll_32 hfl hD (fun h19 => ?_) N h7
  exact y_retU d_R_readsAll_75 rfl
noncomputable def B_R_run_38 (Θ : mW) (N : Nat) (K92 : mH → Option (Int32 × mH)) (f0_ : Nat) (rc : mH → Int32 → Option (Int32 × mH)) (h : mH) (v1_ : Int32) : Option (Int32 × mH) :=
  (bo (rI Θ h 9 f0_ 18) (fun v7 => (if v7 ≤ v1_ then (K92 h) else (gO Θ h 9 f0_ (bc (P_R_does Θ N h f0_ ((J 4) * v1_)) (fun v9 h8 => (bo (rI Θ h8 9 f0_ 13) (fun v10 => (if v10 = 0 then (rc h8 (v1_ + (J 1))) else (bo (wF Θ h8 9 f0_ 7 (.int v1_)) (fun h11 => (bo (wF Θ h11 9 f0_ 13 (.int (J 2))) (fun h12 => (bo (rA Θ h12 9 f0_ 1) (fun v13 => (bo (rA Θ h12 9 f0_ 0) (fun v14 => (bc (P_R_copies Θ N h12 v13 (J 0) v14 (J 0)) (fun v16 h15 => (some ((J 0), h15)))))))))))))))))))))
noncomputable def P_R_run_38 (Θ : mW) (N : Nat) (K92 : mH → Option (Int32 × mH)) (f0_ : Nat) : Nat → mH → Int32 → Option (Int32 × mH) :=
  lp (fun _ _ => none) (B_R_run_38 Θ N K92 f0_)
noncomputable def P_R_run (Θ : mW) (N : Nat) (h : mH) (a0 : Nat) : Option (Int32 × mH) :=
  (gO Θ h 9 a0 (bc (P_R_readsAll Θ N h a0) (fun v2 h1 => (bo (rI Θ h1 9 a0 17) (fun v3 => (if v3 = (J (-1)) then (gO Θ h1 9 a0 (bc (P_R_begins Θ N h1 a0) (fun v5 h4 => (bo (wF Θ h4 9 a0 13 (.int (J 0))) (fun h6 => (P_R_run_38 Θ N (fun h17 => (bo (rI Θ h17 9 a0 18) (fun v18 => (gO Θ h17 9 a0 (bc (P_R_ends Θ N h17 a0 v18) (fun v20 h19 => (some (v20, h19)))))))) a0 N h6 (J 0))))))) else (bo (rI Θ h1 9 a0 17) (fun v21 => (bo (wF Θ h1 9 a0 6 (.int v21)) (fun h22 => (bo (wF Θ h22 9 a0 13 (.int (J 1))) (fun h23 => (some ((J 0), h23))))))))))))))
theorem SB_R_run_38 (hfl : HF l Θ) (hD : 9 ≤ d) {K92 : mH → Option (Int32 × mH)} {f0_ : Nat}  (hK92 : ∀ (h : mH), mY l Θ d M_R_run 92 [some (.ref f0_), none, none] [] h (tR vI) (K92 h)) (rc : mH → Int32 → Option (Int32 × mH)) (ih : ∀ (h : mH) (v1_ : Int32), mY l Θ d M_R_run 38 [some (.ref f0_), some (.int v1_), none] [] h (tR vI) (rc h v1_)) : ∀ (h : mH) (v1_ : Int32), mY l Θ d M_R_run 38 [some (.ref f0_), some (.int v1_), none] [] h (tR vI) (B_R_run_38 Θ N K92 f0_ rc h v1_) := by
  intro h v1_
  unfold B_R_run_38
  refine y_iload_n d_R_run_38 rfl ?_
  refine y_aload_n d_R_run_39 rfl ?_
  refine y_getI d_R_run_40 f_R_261 (fun v7 => ?_)
  refine y_icmp_ge (tgt := 92) d_R_run_43 (by decide) ?_ ?_
  · exact y_wk (loc2 := [some (.ref f0_), none, none]) ⟨rfl, trivial⟩ (hK92 h)
  · refine y_aload_n d_R_run_46 rfl ?_
    refine y_iconst (v := (J 4)) d_R_run_47 rfl ?_
    refine y_iload_n d_R_run_48 rfl ?_
    refine y_imul (v := ((J 4) * v1_)) d_R_run_49 rfl ?_
    refine y_gO (fun fs1 g1 => y_cI (c_vi (rest := []) d_R_run_50 k_R_does s_R_276 (Or.inl ⟨_, _, _, g1, rfl, rfl⟩) rfl rfl (Nat.le_of_ble_eq_true rfl) (Nat.le_trans (Nat.le_of_ble_eq_true rfl : 8 + 1 ≤ 9) hD) (S_R_does hfl (Nat.le_refl _) h f0_ ((J 4) * v1_))) (fun v9 h8 => ?_))
    refine y_istore_n (loc2 := [some (.ref f0_), some (.int v1_), some (.int v9)]) d_R_run_53 (Nat.le_of_ble_eq_true rfl) rfl rfl ?_
    refine y_aload_n d_R_run_54 rfl ?_
    refine y_getI d_R_run_55 f_R_42 (fun v10 => ?_)
    refine y_if_eq (tgt := 86) d_R_run_58 (by decide) ?_ ?_
    · refine y_iinc (v := (v1_ + (J 1))) (loc2 := [some (.ref f0_), some (.int (v1_ + (J 1))), some (.int v9)]) d_R_run_86 rfl rfl (Nat.le_of_ble_eq_true rfl) rfl rfl ?_
      refine y_goto (tgt := 38) d_R_run_89 (by decide) ?_
      exact y_wk (loc2 := [some (.ref f0_), some (.int (v1_ + (J 1))), none]) ⟨rfl, ⟨rfl, trivial⟩⟩ (ih h8 (v1_ + (J 1)))
    · refine y_aload_n d_R_run_61 rfl ?_
      refine y_iload_n d_R_run_62 rfl ?_
      refine y_put d_R_run_63 p_R_26 rfl rfl (fun h11 => ?_)
      refine y_aload_n d_R_run_66 rfl ?_
      refine y_iconst (v := (J 2)) d_R_run_67 rfl ?_
      refine y_put d_R_run_68 p_R_42 rfl rfl (fun h12 => ?_)
      refine y_aload_n d_R_run_71 rfl ?_
      refine y_getA d_R_run_72 f_R_13 (fun v13 => ?_)
      refine y_iconst (v := (J 0)) d_R_run_75 rfl ?_
      refine y_aload_n d_R_run_76 rfl ?_
      refine y_getA d_R_run_77 f_R_9 (fun v14 => ?_)
      refine y_iconst (v := (J 0)) d_R_run_80 rfl ?_
      refine y_cU (c_st (rest := []) d_R_run_81 k_R_copies s_R_49 rfl rfl (Nat.le_of_ble_eq_true rfl) (Nat.le_trans (Nat.le_of_ble_eq_true rfl : 1 + 1 ≤ 9) hD) (S_R_copies hfl (Nat.le_refl _) h12 v13 (J 0) v14 (J 0))) (fun v16 h15 => ?_)
      refine y_iconst (v := (J 0)) d_R_run_84 rfl ?_
      exact y_retI d_R_run_85 rfl rfl
theorem S_R_run_38 (hfl : HF l Θ) (hD : 9 ≤ d) {K92 : mH → Option (Int32 × mH)} {f0_ : Nat}  (hK92 : ∀ (h : mH), mY l Θ d M_R_run 92 [some (.ref f0_), none, none] [] h (tR vI) (K92 h)) : ∀ (n : Nat) (h : mH) (v1_ : Int32), mY l Θ d M_R_run 38 [some (.ref f0_), some (.int v1_), none] [] h (tR vI) (P_R_run_38 Θ N K92 f0_ n h v1_) :=
  fun n => lp_all (C := fun (rc : mH → Int32 → Option (Int32 × mH)) => ∀ (h : mH) (v1_ : Int32), mY l Θ d M_R_run 38 [some (.ref f0_), some (.int v1_), none] [] h (tR vI) (rc h v1_)) (fun _ _ => y_none) (fun rc ih => SB_R_run_38 hfl hD hK92 rc ih) n
theorem S_R_run (hfl : HF l Θ) (hD : 9 ≤ d) (h : mH) (a0 : Nat) : mMs l Θ d M_R_run [.ref a0] h (tR vI) (P_R_run Θ N h a0) := by
  refine mMs.of hfl (by decide +kernel) rfl (Nat.le_of_ble_eq_true rfl) (loc := [some (.ref a0), none, none]) rfl ?_
  unfold P_R_run
  refine y_aload_n d_R_run_0 rfl ?_
  refine y_gO (fun fs1 g1 => y_cU (c_vi (rest := []) d_R_run_1 k_R_readsAll s_R_273 (Or.inl ⟨_, _, _, g1, rfl, rfl⟩) rfl rfl (Nat.le_of_ble_eq_true rfl) (Nat.le_trans (Nat.le_of_ble_eq_true rfl : 7 + 1 ≤ 9) hD) (S_R_readsAll hfl (Nat.le_refl _) h a0)) (fun v2 h1 => ?_))
  refine y_aload_n d_R_run_4 rfl ?_
  refine y_getI d_R_run_5 f_R_238 (fun v3 => ?_)
  refine y_iconst (v := (J (-1))) d_R_run_8 rfl ?_
  refine y_icmp_eq (tgt := 27) d_R_run_9 (by decide) ?_ ?_
  · refine y_aload_n d_R_run_27 rfl ?_
    refine y_gO (fun fs1 g1 => y_cU (c_vi (rest := []) d_R_run_28 k_R_begins s_R_94 (Or.inl ⟨_, _, _, g1, rfl, rfl⟩) rfl rfl (Nat.le_of_ble_eq_true rfl) (Nat.le_trans (Nat.le_of_ble_eq_true rfl : 2 + 1 ≤ 9) hD) (S_R_begins hfl (Nat.le_refl _) h1 a0)) (fun v5 h4 => ?_))
    refine y_aload_n d_R_run_31 rfl ?_
    refine y_iconst (v := (J 0)) d_R_run_32 rfl ?_
    refine y_put d_R_run_33 p_R_42 rfl rfl (fun h6 => ?_)
    refine y_iconst (v := (J 0)) d_R_run_36 rfl ?_
    refine y_istore_n (loc2 := [some (.ref a0), some (.int (J 0)), none]) d_R_run_37 (Nat.le_of_ble_eq_true rfl) rfl rfl ?_
    refine S_R_run_38 hfl hD (fun h17 => ?_) N h6 (J 0)
    refine y_aload_n d_R_run_92 rfl ?_
    refine y_aload_n d_R_run_93 rfl ?_
    refine y_getI d_R_run_94 f_R_261 (fun v18 => ?_)
    refine y_gO (fun fs1 g1 => y_cI (c_vi (rest := []) d_R_run_97 k_R_ends s_R_101 (Or.inl ⟨_, _, _, g1, rfl, rfl⟩) rfl rfl (Nat.le_of_ble_eq_true rfl) (Nat.le_trans (Nat.le_of_ble_eq_true rfl : 3 + 1 ≤ 9) hD) (S_R_ends hfl (Nat.le_refl _) h17 a0 v18)) (fun v20 h19 => ?_))
    exact y_retI d_R_run_100 rfl rfl
  · refine y_aload_n d_R_run_12 rfl ?_
    refine y_aload_n d_R_run_13 rfl ?_
    refine y_getI d_R_run_14 f_R_238 (fun v21 => ?_)
    refine y_put d_R_run_17 p_R_22 rfl rfl (fun h22 => ?_)
    refine y_aload_n d_R_run_20 rfl ?_
    refine y_iconst (v := (J 1)) d_R_run_21 rfl ?_
    refine y_put d_R_run_22 p_R_42 rfl rfl (fun h23 => ?_)
    refine y_iconst (v := (J 0)) d_R_run_25 rfl ?_
    exact y_retI d_R_run_26 rfl rfl
noncomputable def P_R_errorPosition (Θ : mW) (N : Nat) (h : mH) (a0 : Nat) : Option (Int32 × mH) :=
  (bo (rI Θ h 9 a0 6) (fun v1 => (jn (fun (h3 : mH) (s4 : Int32) => (gO Θ h3 9 a0 (bc (P_R_goes Θ N h3 a0 s4) (fun v6 h5 => (if v6 = 0 then (some ((J 0), h5)) else (bo (rI Θ h5 9 a0 6) (fun v7 => (some (v7, h5))))))))) (fun j2 => (if v1 = (J (-1)) then (j2 h (J 0)) else (j2 h (J 1)))))))
theorem S_R_errorPosition (hfl : HF l Θ) (hD : 3 ≤ d) (h : mH) (a0 : Nat) : mMs l Θ d M_R_errorPosition [.ref a0] h (tR vI) (P_R_errorPosition Θ N h a0) := by
  refine mMs.of hfl (by decide +kernel) rfl (Nat.le_of_ble_eq_true rfl) (loc := [some (.ref a0)]) rfl ?_
  unfold P_R_errorPosition
  refine y_aload_n d_R_errorPosition_0 rfl ?_
  refine y_aload_n d_R_errorPosition_1 rfl ?_
  refine y_getI d_R_errorPosition_2 f_R_22 (fun v1 => ?_)
  refine y_iconst (v := (J (-1))) d_R_errorPosition_5 rfl ?_
  refine y_jn (C := fun (j9 : mH → Int32 → Option (Int32 × mH)) => ∀ (h3 : mH) (s4 : Int32), mY l Θ d M_R_errorPosition 14 [some (.ref a0)] [.int s4, .ref a0] h3 (tR vI) (j9 h3 s4)) (fun h3 s4 => ?_) (fun j2 Hj2 => ?_)
  · refine y_gO (fun fs1 g1 => y_cI (c_vi (rest := []) d_R_errorPosition_14 k_R_goes s_R_59 (Or.inl ⟨_, _, _, g1, rfl, rfl⟩) rfl rfl (Nat.le_of_ble_eq_true rfl) (Nat.le_trans (Nat.le_of_ble_eq_true rfl : 2 + 1 ≤ 3) hD) (S_R_goes hfl (Nat.le_refl _) h3 a0 s4)) (fun v6 h5 => ?_))
    refine y_if_eq (tgt := 27) d_R_errorPosition_17 (by decide) ?_ ?_
    · refine y_iconst (v := (J 0)) d_R_errorPosition_27 rfl ?_
      exact y_retI d_R_errorPosition_28 rfl rfl
    · refine y_aload_n d_R_errorPosition_20 rfl ?_
      refine y_getI d_R_errorPosition_21 f_R_22 (fun v7 => ?_)
      refine y_goto (tgt := 28) d_R_errorPosition_24 (by decide) ?_
      exact y_retI d_R_errorPosition_28 rfl rfl
  · refine y_icmp_eq (tgt := 13) d_R_errorPosition_6 (by decide) ?_ ?_
    · refine y_iconst (v := (J 0)) d_R_errorPosition_13 rfl ?_
      exact Hj2 h (J 0)
    · refine y_iconst (v := (J 1)) d_R_errorPosition_9 rfl ?_
      refine y_goto (tgt := 14) d_R_errorPosition_10 (by decide) ?_
      exact Hj2 h (J 1)
noncomputable def P_R_failedCommand (Θ : mW) (N : Nat) (h : mH) (a0 : Nat) : Option (Int32 × mH) :=
  (bo (rI Θ h 9 a0 7) (fun v1 => (jn (fun (h3 : mH) (s4 : Int32) => (gO Θ h3 9 a0 (bc (P_R_goes Θ N h3 a0 s4) (fun v6 h5 => (if v6 = 0 then (some ((J 0), h5)) else (bo (rI Θ h5 9 a0 7) (fun v7 => (some (v7, h5))))))))) (fun j2 => (if v1 = (J (-1)) then (j2 h (J 0)) else (j2 h (J 1)))))))
theorem S_R_failedCommand (hfl : HF l Θ) (hD : 3 ≤ d) (h : mH) (a0 : Nat) : mMs l Θ d M_R_failedCommand [.ref a0] h (tR vI) (P_R_failedCommand Θ N h a0) := by
  refine mMs.of hfl (by decide +kernel) rfl (Nat.le_of_ble_eq_true rfl) (loc := [some (.ref a0)]) rfl ?_
  unfold P_R_failedCommand
  refine y_aload_n d_R_failedCommand_0 rfl ?_
  refine y_aload_n d_R_failedCommand_1 rfl ?_
  refine y_getI d_R_failedCommand_2 f_R_26 (fun v1 => ?_)
  refine y_iconst (v := (J (-1))) d_R_failedCommand_5 rfl ?_
  refine y_jn (C := fun (j9 : mH → Int32 → Option (Int32 × mH)) => ∀ (h3 : mH) (s4 : Int32), mY l Θ d M_R_failedCommand 14 [some (.ref a0)] [.int s4, .ref a0] h3 (tR vI) (j9 h3 s4)) (fun h3 s4 => ?_) (fun j2 Hj2 => ?_)
  · refine y_gO (fun fs1 g1 => y_cI (c_vi (rest := []) d_R_failedCommand_14 k_R_goes s_R_59 (Or.inl ⟨_, _, _, g1, rfl, rfl⟩) rfl rfl (Nat.le_of_ble_eq_true rfl) (Nat.le_trans (Nat.le_of_ble_eq_true rfl : 2 + 1 ≤ 3) hD) (S_R_goes hfl (Nat.le_refl _) h3 a0 s4)) (fun v6 h5 => ?_))
    refine y_if_eq (tgt := 27) d_R_failedCommand_17 (by decide) ?_ ?_
    · refine y_iconst (v := (J 0)) d_R_failedCommand_27 rfl ?_
      exact y_retI d_R_failedCommand_28 rfl rfl
    · refine y_aload_n d_R_failedCommand_20 rfl ?_
      refine y_getI d_R_failedCommand_21 f_R_26 (fun v7 => ?_)
      refine y_goto (tgt := 28) d_R_failedCommand_24 (by decide) ?_
      exact y_retI d_R_failedCommand_28 rfl rfl
  · refine y_icmp_eq (tgt := 13) d_R_failedCommand_6 (by decide) ?_ ?_
    · refine y_iconst (v := (J 0)) d_R_failedCommand_13 rfl ?_
      exact Hj2 h (J 0)
    · refine y_iconst (v := (J 1)) d_R_failedCommand_9 rfl ?_
      refine y_goto (tgt := 14) d_R_failedCommand_10 (by decide) ?_
      exact Hj2 h (J 1)
end GP
