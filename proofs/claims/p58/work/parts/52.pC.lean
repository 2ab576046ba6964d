/-! programs of methods -/
section GP
variable {l : Launch} {Θ : mW} {d N : Nat}
noncomputable def P_E_byFormula (Θ : mW) (N : Nat) (h : mH) (a0 : Int32) : Option (Int32 × mH) :=
  (if (J 6) < (a0 - a0 / (J 12) * (J 12)) then (some (((J 160) - ((J 20) * ((a0 - a0 / (J 12) * (J 12)) - (J 6)))), h)) else (some (((J 40) + ((J 20) * (a0 - a0 / (J 12) * (J 12)))), h)))
theorem S_E_byFormula (hfl : HF l Θ) (hD : 1 ≤ d) (h : mH) (a0 : Int32) : mMs l Θ d M_E_byFormula [.int a0] h (tR vI) (P_E_byFormula Θ N h a0) := by
  refine mMs.of hfl (by decide +kernel) rfl (Nat.le_of_ble_eq_true rfl) (loc := [some (.int a0), none]) rfl ?_
  unfold P_E_byFormula
  refine y_iload_n d_E_byFormula_0 rfl ?_
  refine y_bipush (v := (J 12)) d_E_byFormula_1 (by decide +kernel) ?_
  refine y_irem (v := (a0 - a0 / (J 12) * (J 12))) d_E_byFormula_3 (by decide +kernel) rfl ?_
  refine y_istore_n (loc2 := [some (.int a0), some (.int (a0 - a0 / (J 12) * (J 12)))]) d_E_byFormula_4 (Nat.le_of_ble_eq_true rfl) rfl rfl ?_
  refine y_iload_n d_E_byFormula_5 rfl ?_
  refine y_bipush (v := (J 6)) d_E_byFormula_6 (by decide +kernel) ?_
  refine y_icmp_gt (tgt := 21) d_E_byFormula_8 (by decide) ?_ ?_
  · refine y_sipush (v := (J 160)) d_E_byFormula_21 (by decide +kernel) ?_
    refine y_bipush (v := (J 20)) d_E_byFormula_24 (by decide +kernel) ?_
    refine y_iload_n d_E_byFormula_26 rfl ?_
    refine y_bipush (v := (J 6)) d_E_byFormula_27 (by decide +kernel) ?_
    refine y_isub (v := ((a0 - a0 / (J 12) * (J 12)) - (J 6))) d_E_byFormula_29 rfl ?_
    refine y_imul (v := ((J 20) * ((a0 - a0 / (J 12) * (J 12)) - (J 6)))) d_E_byFormula_30 rfl ?_
    refine y_isub (v := ((J 160) - ((J 20) * ((a0 - a0 / (J 12) * (J 12)) - (J 6))))) d_E_byFormula_31 rfl ?_
    exact y_retI d_E_byFormula_32 rfl rfl
  · refine y_bipush (v := (J 40)) d_E_byFormula_11 (by decide +kernel) ?_
    refine y_bipush (v := (J 20)) d_E_byFormula_13 (by decide +kernel) ?_
    refine y_iload_n d_E_byFormula_15 rfl ?_
    refine y_imul (v := ((J 20) * (a0 - a0 / (J 12) * (J 12)))) d_E_byFormula_16 rfl ?_
    refine y_iadd (v := ((J 40) + ((J 20) * (a0 - a0 / (J 12) * (J 12))))) d_E_byFormula_17 rfl ?_
    refine y_goto (tgt := 32) d_E_byFormula_18 (by decide) ?_
    exact y_retI d_E_byFormula_32 rfl rfl
noncomputable def P_E_checkHour (Θ : mW) (N : Nat) (h : mH) (a0 : Int32) : Option ((Unit ⊕ Nat) × mH) :=
  (if a0 < 0 then (xp 11 (h ++ [oB 11 []])) else (if a0 ≤ (J 9999) then (some (.inl (), h)) else (xp 11 (h ++ [oB 11 []]))))
theorem S_E_checkHour (hfl : HF l Θ) (hD : 6 ≤ d) (h : mH) (a0 : Int32) : mMs l Θ d M_E_checkHour [.int a0] h (tX vU) (P_E_checkHour Θ N h a0) := by
  refine mMs.of hfl (by decide +kernel) rfl (Nat.le_of_ble_eq_true rfl) (loc := [some (.int a0)]) rfl ?_
  unfold P_E_checkHour
  refine y_iload_n d_E_checkHour_0 rfl ?_
  refine y_if_lt (tgt := 11) d_E_checkHour_1 (by decide) ?_ ?_
  · exact y_throw rfl d_E_checkHour_11 d_E_checkHour_14 d_E_checkHour_15 d_E_checkHour_17 d_E_checkHour_20 mExc_11 y_E_9 x_E_13 (List.mem_of_getElem? (i := 28) rfl) (Nat.le_of_ble_eq_true rfl) (Nat.le_trans (Nat.le_of_ble_eq_true rfl) hD)
  · refine y_iload_n d_E_checkHour_4 rfl ?_
    refine y_sipush (v := (J 9999)) d_E_checkHour_5 (by decide +kernel) ?_
    refine y_icmp_le (tgt := 21) d_E_checkHour_8 (by decide) ?_ ?_
    · exact y_retUX d_E_checkHour_21 rfl
    · exact y_throw rfl d_E_checkHour_11 d_E_checkHour_14 d_E_checkHour_15 d_E_checkHour_17 d_E_checkHour_20 mExc_11 y_E_9 x_E_13 (List.mem_of_getElem? (i := 28) rfl) (Nat.le_of_ble_eq_true rfl) (Nat.le_trans (Nat.le_of_ble_eq_true rfl) hD)
noncomputable def P_E_stepAfter (Θ : mW) (N : Nat) (h : mH) (a0 : Int32) : Option (Int32 × mH) :=
  (if (J 6) ≤ (a0 - a0 / (J 12) * (J 12)) then (some ((J (-20)), h)) else (some ((J 20), h)))
theorem S_E_stepAfter (hfl : HF l Θ) (hD : 1 ≤ d) (h : mH) (a0 : Int32) : mMs l Θ d M_E_stepAfter [.int a0] h (tR vI) (P_E_stepAfter Θ N h a0) := by
  refine mMs.of hfl (by decide +kernel) rfl (Nat.le_of_ble_eq_true rfl) (loc := [some (.int a0)]) rfl ?_
  unfold P_E_stepAfter
  refine y_iload_n d_E_stepAfter_0 rfl ?_
  refine y_bipush (v := (J 12)) d_E_stepAfter_1 (by decide +kernel) ?_
  refine y_irem (v := (a0 - a0 / (J 12) * (J 12))) d_E_stepAfter_3 (by decide +kernel) rfl ?_
  refine y_bipush (v := (J 6)) d_E_stepAfter_4 (by decide +kernel) ?_
  refine y_icmp_ge (tgt := 14) d_E_stepAfter_6 (by decide) ?_ ?_
  · refine y_bipush (v := (J (-20))) d_E_stepAfter_14 (by decide +kernel) ?_
    exact y_retI d_E_stepAfter_16 rfl rfl
  · refine y_bipush (v := (J 20)) d_E_stepAfter_9 (by decide +kernel) ?_
    refine y_goto (tgt := 16) d_E_stepAfter_11 (by decide) ?_
    exact y_retI d_E_stepAfter_16 rfl rfl
noncomputable def B_E_byHours_5 (Θ : mW) (N : Nat) (K23 : mH → Int32 → Option (Int32 × mH)) (f0_ : Int32) (rc : mH → Int32 → Int32 → Option (Int32 × mH)) (h : mH) (v1_ : Int32) (v2_ : Int32) : Option (Int32 × mH) :=
  (if f0_ ≤ v2_ then (K23 h v1_) else (bc (P_E_stepAfter Θ N h v2_) (fun v2 h1 => (rc h1 (v1_ + v2) (v2_ + (J 1))))))
noncomputable def P_E_byHours_5 (Θ : mW) (N : Nat) (K23 : mH → Int32 → Option (Int32 × mH)) (f0_ : Int32) : Nat → mH → Int32 → Int32 → Option (Int32 × mH) :=
  lp (fun _ _ _ => none) (B_E_byHours_5 Θ N K23 f0_)
noncomputable def P_E_byHours (Θ : mW) (N : Nat) (h : mH) (a0 : Int32) : Option (Int32 × mH) :=
  (P_E_byHours_5 Θ N (fun h3 u4 => (some (u4, h3))) a0 N h (J 40) (J 0))
theorem SB_E_byHours_5 (hfl : HF l Θ) (hD : 2 ≤ d) {K23 : mH → Int32 → Option (Int32 × mH)} {f0_ : Int32}  (hK23 : ∀ (h : mH) (v1_ : Int32), mY l Θ d M_E_byHours 23 [none, some (.int v1_), none] [] h (tR vI) (K23 h v1_)) (rc : mH → Int32 → Int32 → Option (Int32 × mH)) (ih : ∀ (h : mH) (v1_ : Int32) (v2_ : Int32), mY l Θ d M_E_byHours 5 [some (.int f0_), some (.int v1_), some (.int v2_)] [] h (tR vI) (rc h v1_ v2_)) : ∀ (h : mH) (v1_ : Int32) (v2_ : Int32), mY l Θ d M_E_byHours 5 [some (.int f0_), some (.int v1_), some (.int v2_)] [] h (tR vI) (B_E_byHours_5 Θ N K23 f0_ rc h v1_ v2_) := by
  intro h v1_ v2_
  unfold B_E_byHours_5
  refine y_iload_n d_E_byHours_5 rfl ?_
  refine y_iload_n d_E_byHours_6 rfl ?_
  refine y_icmp_ge (tgt := 23) d_E_byHours_7 (by decide) ?_ ?_
  · exact y_wk (loc2 := [none, some (.int v1_), none]) ⟨rfl, trivial⟩ (hK23 h v1_)
  · refine y_iload_n d_E_byHours_10 rfl ?_
    refine y_iload_n d_E_byHours_11 rfl ?_
    refine y_cI (c_st (rest := [.int v1_]) d_E_byHours_12 k_E_stepAfter s_E_16 rfl rfl (Nat.le_of_ble_eq_true rfl) (Nat.le_trans (Nat.le_of_ble_eq_true rfl : 1 + 1 ≤ 2) hD) (S_E_stepAfter hfl (Nat.le_refl _) h v2_)) (fun v2 h1 => ?_)
    refine y_iadd (v := (v1_ + v2)) d_E_byHours_15 rfl ?_
    refine y_istore_n (loc2 := [some (.int f0_), some (.int (v1_ + v2)), some (.int v2_)]) d_E_byHours_16 (Nat.le_of_ble_eq_true rfl) rfl rfl ?_
    refine y_iinc (v := (v2_ + (J 1))) (loc2 := [some (.int f0_), some (.int (v1_ + v2)), some (.int (v2_ + (J 1)))]) d_E_byHours_17 rfl rfl (Nat.le_of_ble_eq_true rfl) rfl rfl ?_
    refine y_goto (tgt := 5) d_E_byHours_20 (by decide) ?_
    exact ih h1 (v1_ + v2) (v2_ + (J 1))
theorem S_E_byHours_5 (hfl : HF l Θ) (hD : 2 ≤ d) {K23 : mH → Int32 → Option (Int32 × mH)} {f0_ : Int32}  (hK23 : ∀ (h : mH) (v1_ : Int32), mY l Θ d M_E_byHours 23 [none, some (.int v1_), none] [] h (tR vI) (K23 h v1_)) : ∀ (n : Nat) (h : mH) (v1_ : Int32) (v2_ : Int32), mY l Θ d M_E_byHours 5 [some (.int f0_), some (.int v1_), some (.int v2_)] [] h (tR vI) (P_E_byHours_5 Θ N K23 f0_ n h v1_ v2_) :=
  fun n => lp_all (C := fun (rc : mH → Int32 → Int32 → Option (Int32 × mH)) => ∀ (h : mH) (v1_ : Int32) (v2_ : Int32), mY l Θ d M_E_byHours 5 [some (.int f0_), some (.int v1_), some (.int v2_)] [] h (tR vI) (rc h v1_ v2_)) (fun _ _ _ => y_none) (fun rc ih => SB_E_byHours_5 hfl hD hK23 rc ih) n
theorem S_E_byHours (hfl : HF l Θ) (hD : 2 ≤ d) (h : mH) (a0 : Int32) : mMs l Θ d M_E_byHours [.int a0] h (tR vI) (P_E_byHours Θ N h a0) := by
  refine mMs.of hfl (by decide +kernel) rfl (Nat.le_of_ble_eq_true rfl) (loc := [some (.int a0), none, none]) rfl ?_
  unfold P_E_byHours
  refine y_bipush (v := (J 40)) d_E_byHours_0 (by decide +kernel) ?_
  refine y_istore_n (loc2 := [some (.int a0), some (.int (J 40)), none]) d_E_byHours_2 (Nat.le_of_ble_eq_true rfl) rfl rfl ?_
  refine y_iconst (v := (J 0)) d_E_byHours_3 rfl ?_
  refine y_istore_n (loc2 := [some (.int a0), some (.int (J 40)), some (.int (J 0))]) d_E_byHours_4 (Nat.le_of_ble_eq_true rfl) rfl rfl ?_
  refine S_E_byHours_5 hfl hD (fun h3 u4 => ?_) N h (J 40) (J 0)
  refine y_iload_n d_E_byHours_23 rfl ?_
  exact y_retI d_E_byHours_24 rfl rfl
noncomputable def B_E_agreesFrom_7 (Θ : mW) (N : Nat) (K40 : mH → Option (Int32 × mH)) (f0_ : Int32) (rc : mH → Int32 → Int32 → Option (Int32 × mH)) (h : mH) (v1_ : Int32) (v2_ : Int32) : Option (Int32 × mH) :=
  (if (J 24) < v2_ then (K40 h) else (bc (P_E_byFormula Θ N h (f0_ + v2_)) (fun v4 h3 => (if v1_ = v4 then (bc (P_E_stepAfter Θ N h3 (f0_ + v2_)) (fun v6 h5 => (rc h5 (v1_ + v6) (v2_ + (J 1))))) else (some ((J 0), h3))))))
noncomputable def P_E_agreesFrom_7 (Θ : mW) (N : Nat) (K40 : mH → Option (Int32 × mH)) (f0_ : Int32) : Nat → mH → Int32 → Int32 → Option (Int32 × mH) :=
  lp (fun _ _ _ => none) (B_E_agreesFrom_7 Θ N K40 f0_)
noncomputable def P_E_agreesFrom (Θ : mW) (N : Nat) (h : mH) (a0 : Int32) : Option (Int32 × mH) :=
  (bc (P_E_byHours Θ N h a0) (fun v2 h1 => (P_E_agreesFrom_7 Θ N (fun h7 => (some ((J 1), h7))) a0 N h1 v2 (J 0))))
theorem SB_E_agreesFrom_7 (hfl : HF l Θ) (hD : 3 ≤ d) {K40 : mH → Option (Int32 × mH)} {f0_ : Int32}  (hK40 : ∀ (h : mH), mY l Θ d M_E_agreesFrom 40 [none, none, none] [] h (tR vI) (K40 h)) (rc : mH → Int32 → Int32 → Option (Int32 × mH)) (ih : ∀ (h : mH) (v1_ : Int32) (v2_ : Int32), mY l Θ d M_E_agreesFrom 7 [some (.int f0_), some (.int v1_), some (.int v2_)] [] h (tR vI) (rc h v1_ v2_)) : ∀ (h : mH) (v1_ : Int32) (v2_ : Int32), mY l Θ d M_E_agreesFrom 7 [some (.int f0_), some (.int v1_), some (.int v2_)] [] h (tR vI) (B_E_agreesFrom_7 Θ N K40 f0_ rc h v1_ v2_) := by
  intro h v1_ v2_
  unfold B_E_agreesFrom_7
  refine y_iload_n d_E_agreesFrom_7 rfl ?_
  refine y_bipush (v := (J 24)) d_E_agreesFrom_8 (by decide +kernel) ?_
  refine y_icmp_gt (tgt := 40) d_E_agreesFrom_10 (by decide) ?_ ?_
  · exact y_wk (loc2 := [none, none, none]) trivial (hK40 h)
  · refine y_iload_n d_E_agreesFrom_13 rfl ?_
    refine y_iload_n d_E_agreesFrom_14 rfl ?_
    refine y_iload_n d_E_agreesFrom_15 rfl ?_
    refine y_iadd (v := (f0_ + v2_)) d_E_agreesFrom_16 rfl ?_
    refine y_cI (c_st (rest := [.int v1_]) d_E_agreesFrom_17 k_E_byFormula s_E_23 rfl rfl (Nat.le_of_ble_eq_true rfl) (Nat.le_trans (Nat.le_of_ble_eq_true rfl : 1 + 1 ≤ 3) hD) (S_E_byFormula hfl (Nat.le_refl _) h (f0_ + v2_))) (fun v4 h3 => ?_)
    refine y_icmp_eq (tgt := 25) d_E_agreesFrom_20 (by decide) ?_ ?_
    · refine y_iload_n d_E_agreesFrom_25 rfl ?_
      refine y_iload_n d_E_agreesFrom_26 rfl ?_
      refine y_iload_n d_E_agreesFrom_27 rfl ?_
      refine y_iadd (v := (f0_ + v2_)) d_E_agreesFrom_28 rfl ?_
      refine y_cI (c_st (rest := [.int v1_]) d_E_agreesFrom_29 k_E_stepAfter s_E_16 rfl rfl (Nat.le_of_ble_eq_true rfl) (Nat.le_trans (Nat.le_of_ble_eq_true rfl : 1 + 1 ≤ 3) hD) (S_E_stepAfter hfl (Nat.le_refl _) h3 (f0_ + v2_))) (fun v6 h5 => ?_)
      refine y_iadd (v := (v1_ + v6)) d_E_agreesFrom_32 rfl ?_
      refine y_istore_n (loc2 := [some (.int f0_), some (.int (v1_ + v6)), some (.int v2_)]) d_E_agreesFrom_33 (Nat.le_of_ble_eq_true rfl) rfl rfl ?_
      refine y_iinc (v := (v2_ + (J 1))) (loc2 := [some (.int f0_), some (.int (v1_ + v6)), some (.int (v2_ + (J 1)))]) d_E_agreesFrom_34 rfl rfl (Nat.le_of_ble_eq_true rfl) rfl rfl ?_
      refine y_goto (tgt := 7) d_E_agreesFrom_37 (by decide) ?_
      exact ih h5 (v1_ + v6) (v2_ + (J 1))
    · refine y_iconst (v := (J 0)) d_E_agreesFrom_23 rfl ?_
      exact y_retI d_E_agreesFrom_24 rfl (by decide +kernel)
theorem S_E_agreesFrom_7 (hfl : HF l Θ) (hD : 3 ≤ d) {K40 : mH → Option (Int32 × mH)} {f0_ : Int32}  (hK40 : ∀ (h : mH), mY l Θ d M_E_agreesFrom 40 [none, none, none] [] h (tR vI) (K40 h)) : ∀ (n : Nat) (h : mH) (v1_ : Int32) (v2_ : Int32), mY l Θ d M_E_agreesFrom 7 [some (.int f0_), some (.int v1_), some (.int v2_)] [] h (tR vI) (P_E_agreesFrom_7 Θ N K40 f0_ n h v1_ v2_) :=
  fun n => lp_all (C := fun (rc : mH → Int32 → Int32 → Option (Int32 × mH)) => ∀ (h : mH) (v1_ : Int32) (v2_ : Int32), mY l Θ d M_E_agreesFrom 7 [some (.int f0_), some (.int v1_), some (.int v2_)] [] h (tR vI) (rc h v1_ v2_)) (fun _ _ _ => y_none) (fun rc ih => SB_E_agreesFrom_7 hfl hD hK40 rc ih) n
theorem S_E_agreesFrom (hfl : HF l Θ) (hD : 3 ≤ d) (h : mH) (a0 : Int32) : mMs l Θ d M_E_agreesFrom [.int a0] h (tR vI) (P_E_agreesFrom Θ N h a0) := by
  refine mMs.of hfl (by decide +kernel) rfl (Nat.le_of_ble_eq_true rfl) (loc := [some (.int a0), none, none]) rfl ?_
  unfold P_E_agreesFrom
  refine y_iload_n d_E_agreesFrom_0 rfl ?_
  refine y_cI (c_st (rest := []) d_E_agreesFrom_1 k_E_byHours s_E_20 rfl rfl (Nat.le_of_ble_eq_true rfl) (Nat.le_trans (Nat.le_of_ble_eq_true rfl : 2 + 1 ≤ 3) hD) (S_E_byHours hfl (Nat.le_refl _) h a0)) (fun v2 h1 => ?_)
  refine y_istore_n (loc2 := [some (.int a0), some (.int v2), none]) d_E_agreesFrom_4 (Nat.le_of_ble_eq_true rfl) rfl rfl ?_
  refine y_iconst (v := (J 0)) d_E_agreesFrom_5 rfl ?_
  refine y_istore_n (loc2 := [some (.int a0), some (.int v2), some (.int (J 0))]) d_E_agreesFrom_6 (Nat.le_of_ble_eq_true rfl) rfl rfl ?_
  refine S_E_agreesFrom_7 hfl hD (fun h7 => ?_) N h1 v2 (J 0)
  refine y_iconst (v := (J 1)) d_E_agreesFrom_40 rfl ?_
  exact y_retI d_E_agreesFrom_41 rfl (by decide +kernel)
noncomputable def P_S_init (Θ : mW) (N : Nat) (h : mH) (a0 : Nat) : Option (Unit × mH) :=
  (bo (wF Θ h 3 a0 7 (.int (J (-1)))) (fun h1 => (some ((), h1))))
theorem S_S_init (hfl : HF l Θ) (hD : 1 ≤ d) (h : mH) (a0 : Nat) : mMs l Θ d M_S_init [.ref a0] h (tR vU) (P_S_init Θ N h a0) := by
  refine mMs.of hfl (by decide +kernel) rfl (Nat.le_of_ble_eq_true rfl) (loc := [some (.ref a0)]) rfl ?_
  unfold P_S_init
  refine y_aload_n d_S_init_0 rfl ?_
  refine y_objInit d_S_init_1 s_S_1 (mG (1, 42) (by decide +kernel)) (mG (1, 43) (by decide +kernel)) (Nat.le_of_ble_eq_true rfl) (Nat.le_trans (Nat.le_of_ble_eq_true rfl) hD) ?_
  refine y_aload_n d_S_init_4 rfl ?_
  refine y_iconst (v := (J (-1))) d_S_init_5 rfl ?_
  refine y_put d_S_init_6 p_S_9 rfl rfl (fun h1 => ?_)
  exact y_retU d_S_init_9 rfl
noncomputable def P_S_begin (Θ : mW) (N : Nat) (h : mH) (a0 : Nat) (a1 : Int32) (a2 : Int32) (a3 : Int32) (a4 : Int32) : Option (Unit × mH) :=
  (bo (wF Θ h 3 a0 0 (.int a1)) (fun h1 => (bo (wF Θ h1 3 a0 1 (.int a2)) (fun h2 => (bo (wF Θ h2 3 a0 2 (.int a3)) (fun h3 => (bo (wF Θ h3 3 a0 3 (.int a4)) (fun h4 => (bo (wF Θ h4 3 a0 4 (.int (J 0))) (fun h5 => (bo (wF Θ h5 3 a0 5 (.int (J 0))) (fun h6 => (bo (wF Θ h6 3 a0 6 (.int (J 0))) (fun h7 => (bo (wF Θ h7 3 a0 7 (.int (J (-1)))) (fun h8 => (bo (wF Θ h8 3 a0 8 (.int (J 0))) (fun h9 => (some ((), h9))))))))))))))))))))
theorem S_S_begin (hfl : HF l Θ) (hD : 1 ≤ d) (h : mH) (a0 : Nat) (a1 : Int32) (a2 : Int32) (a3 : Int32) (a4 : Int32) : mMs l Θ d M_S_begin [.ref a0, .int a1, .int a2, .int a3, .int a4] h (tR vU) (P_S_begin Θ N h a0 a1 a2 a3 a4) := by
  refine mMs.of hfl (by decide +kernel) rfl (Nat.le_of_ble_eq_true rfl) (loc := [some (.ref a0), some (.int a1), some (.int a2), some (.int a3), some (.int a4)]) rfl ?_
  unfold P_S_begin
  refine y_aload_n d_S_begin_0 rfl ?_
  refine y_iload_n d_S_begin_1 rfl ?_
  refine y_put d_S_begin_2 p_S_13 rfl rfl (fun h1 => ?_)
  refine y_aload_n d_S_begin_5 rfl ?_
  refine y_iload_n d_S_begin_6 rfl ?_
  refine y_put d_S_begin_7 p_S_16 rfl rfl (fun h2 => ?_)
  refine y_aload_n d_S_begin_10 rfl ?_
  refine y_iload_n d_S_begin_11 rfl ?_
  refine y_put d_S_begin_12 p_S_19 rfl rfl (fun h3 => ?_)
  refine y_aload_n d_S_begin_15 rfl ?_
  refine y_iload d_S_begin_16 rfl ?_
  refine y_put d_S_begin_18 p_S_22 rfl rfl (fun h4 => ?_)
  refine y_aload_n d_S_begin_21 rfl ?_
  refine y_iconst (v := (J 0)) d_S_begin_22 rfl ?_
  refine y_put d_S_begin_23 p_S_25 rfl rfl (fun h5 => ?_)
  refine y_aload_n d_S_begin_26 rfl ?_
  refine y_iconst (v := (J 0)) d_S_begin_27 rfl ?_
  refine y_put d_S_begin_28 p_S_28 rfl rfl (fun h6 => ?_)
  refine y_aload_n d_S_begin_31 rfl ?_
  refine y_iconst (v := (J 0)) d_S_begin_32 rfl ?_
  refine y_put d_S_begin_33 p_S_31 rfl rfl (fun h7 => ?_)
  refine y_aload_n d_S_begin_36 rfl ?_
  refine y_iconst (v := (J (-1))) d_S_begin_37 rfl ?_
  refine y_put d_S_begin_38 p_S_9 rfl rfl (fun h8 => ?_)
  refine y_aload_n d_S_begin_41 rfl ?_
  refine y_iconst (v := (J 0)) d_S_begin_42 rfl ?_
  refine y_put d_S_begin_43 p_S_34 rfl rfl (fun h9 => ?_)
  exact y_retU d_S_begin_46 rfl
noncomputable def P_S_copyFrom (Θ : mW) (N : Nat) (h : mH) (a0 : Nat) (a1 : Nat) : Option (Unit × mH) :=
  (bo (rI Θ h 3 a1 0) (fun v1 => (bo (rI Θ h 3 a1 1) (fun v2 => (bo (rI Θ h 3 a1 2) (fun v3 => (bo (rI Θ h 3 a1 3) (fun v4 => (gO Θ h 3 a0 (bc (P_S_begin Θ N h a0 v1 v2 v3 v4) (fun v6 h5 => (bo (rI Θ h5 3 a1 4) (fun v7 => (bo (wF Θ h5 3 a0 4 (.int v7)) (fun h8 => (bo (rI Θ h8 3 a1 5) (fun v9 => (bo (wF Θ h8 3 a0 5 (.int v9)) (fun h10 => (bo (rI Θ h10 3 a1 6) (fun v11 => (bo (wF Θ h10 3 a0 6 (.int v11)) (fun h12 => (bo (rI Θ h12 3 a1 7) (fun v13 => (bo (wF Θ h12 3 a0 7 (.int v13)) (fun h14 => (bo (rI Θ h14 3 a1 8) (fun v15 => (if v15 = J 0 ∨ v15 = J 1 then (bo (wF Θ h14 3 a0 8 (.int v15)) (fun h16 => (some ((), h16)))) else none))))))))))))))))))))))))))))))
theorem S_S_copyFrom (hfl : HF l Θ) (hD : 2 ≤ d) (h : mH) (a0 : Nat) (a1 : Nat) : mMs l Θ d M_S_copyFrom [.ref a0, .ref a1] h (tR vU) (P_S_copyFrom Θ N h a0 a1) := by
  refine mMs.of hfl (by decide +kernel) rfl (Nat.le_of_ble_eq_true rfl) (loc := [some (.ref a0), some (.ref a1)]) rfl ?_
  unfold P_S_copyFrom
  refine y_aload_n d_S_copyFrom_0 rfl ?_
  refine y_aload_n d_S_copyFrom_1 rfl ?_
  refine y_getI d_S_copyFrom_2 f_S_13 (fun v1 => ?_)
  refine y_aload_n d_S_copyFrom_5 rfl ?_
  refine y_getI d_S_copyFrom_6 f_S_16 (fun v2 => ?_)
  refine y_aload_n d_S_copyFrom_9 rfl ?_
  refine y_getI d_S_copyFrom_10 f_S_19 (fun v3 => ?_)
  refine y_aload_n d_S_copyFrom_13 rfl ?_
  refine y_getI d_S_copyFrom_14 f_S_22 (fun v4 => ?_)
  refine y_gO (fun fs1 g1 => y_cU (c_vi (rest := []) d_S_copyFrom_17 k_S_begin s_S_38 (Or.inl ⟨_, _, _, g1, rfl, rfl⟩) rfl rfl (Nat.le_of_ble_eq_true rfl) (Nat.le_trans (Nat.le_of_ble_eq_true rfl : 1 + 1 ≤ 2) hD) (S_S_begin hfl (Nat.le_refl _) h a0 v1 v2 v3 v4)) (fun v6 h5 => ?_))
  refine y_aload_n d_S_copyFrom_20 rfl ?_
  refine y_aload_n d_S_copyFrom_21 rfl ?_
  refine y_getI d_S_copyFrom_22 f_S_25 (fun v7 => ?_)
  refine y_put d_S_copyFrom_25 p_S_25 rfl rfl (fun h8 => ?_)
  refine y_aload_n d_S_copyFrom_28 rfl ?_
  refine y_aload_n d_S_copyFrom_29 rfl ?_
  refine y_getI d_S_copyFrom_30 f_S_28 (fun v9 => ?_)
  refine y_put d_S_copyFrom_33 p_S_28 rfl rfl (fun h10 => ?_)
  refine y_aload_n d_S_copyFrom_36 rfl ?_
  refine y_aload_n d_S_copyFrom_37 rfl ?_
  refine y_getI d_S_copyFrom_38 f_S_31 (fun v11 => ?_)
  refine y_put d_S_copyFrom_41 p_S_31 rfl rfl (fun h12 => ?_)
  refine y_aload_n d_S_copyFrom_44 rfl ?_
  refine y_aload_n d_S_copyFrom_45 rfl ?_
  refine y_getI d_S_copyFrom_46 f_S_9 (fun v13 => ?_)
  refine y_put d_S_copyFrom_49 p_S_9 rfl rfl (fun h14 => ?_)
  refine y_aload_n d_S_copyFrom_52 rfl ?_
  refine y_aload_n d_S_copyFrom_53 rfl ?_
  refine y_getI d_S_copyFrom_54 f_S_34 (fun v15 => ?_)
  refine y_gZ (fun hn hf => y_put d_S_copyFrom_57 p_S_34 hn hf (fun h16 => ?_))
  exact y_retU d_S_copyFrom_60 rfl
noncomputable def P_S_isDocked (Θ : mW) (N : Nat) (h : mH) (a0 : Nat) : Option (Int32 × mH) :=
  (bo (rI Θ h 3 a0 7) (fun v1 => (if v1 = (J (-1)) then (some ((J 0), h)) else (some ((J 1), h)))))
theorem S_S_isDocked (hfl : HF l Θ) (hD : 1 ≤ d) (h : mH) (a0 : Nat) : mMs l Θ d M_S_isDocked [.ref a0] h (tR vI) (P_S_isDocked Θ N h a0) := by
  refine mMs.of hfl (by decide +kernel) rfl (Nat.le_of_ble_eq_true rfl) (loc := [some (.ref a0)]) rfl ?_
  unfold P_S_isDocked
  refine y_aload_n d_S_isDocked_0 rfl ?_
  refine y_getI d_S_isDocked_1 f_S_9 (fun v1 => ?_)
  refine y_iconst (v := (J (-1))) d_S_isDocked_4 rfl ?_
  refine y_icmp_eq (tgt := 12) d_S_isDocked_5 (by decide) ?_ ?_
  · refine y_iconst (v := (J 0)) d_S_isDocked_12 rfl ?_
    exact y_retI d_S_isDocked_13 rfl (by decide +kernel)
  · refine y_iconst (v := (J 1)) d_S_isDocked_8 rfl ?_
    refine y_goto (tgt := 13) d_S_isDocked_9 (by decide) ?_
    exact y_retI d_S_isDocked_13 rfl (by decide +kernel)
noncomputable def P_S_overlaps (Θ : mW) (N : Nat) (h : mH) (a0 : Nat) (a1 : Int32) (a2 : Int32) : Option (Int32 × mH) :=
  (bo (rI Θ h 3 a0 7) (fun v1 => (if v1 = (J (-1)) then (some ((J 0), h)) else (bo (rI Θ h 3 a0 7) (fun v2 => (if (a1 + a2) ≤ v2 then (some ((J 0), h)) else (bo (rI Θ h 3 a0 7) (fun v3 => (bo (rI Θ h 3 a0 1) (fun v4 => (if (v3 + v4) ≤ a1 then (some ((J 0), h)) else (some ((J 1), h)))))))))))))
theorem S_S_overlaps (hfl : HF l Θ) (hD : 1 ≤ d) (h : mH) (a0 : Nat) (a1 : Int32) (a2 : Int32) : mMs l Θ d M_S_overlaps [.ref a0, .int a1, .int a2] h (tR vI) (P_S_overlaps Θ N h a0 a1 a2) := by
  refine mMs.of hfl (by decide +kernel) rfl (Nat.le_of_ble_eq_true rfl) (loc := [some (.ref a0), some (.int a1), some (.int a2)]) rfl ?_
  unfold P_S_overlaps
  refine y_aload_n d_S_overlaps_0 rfl ?_
  refine y_getI d_S_overlaps_1 f_S_9 (fun v1 => ?_)
  refine y_iconst (v := (J (-1))) d_S_overlaps_4 rfl ?_
  refine y_icmp_eq (tgt := 35) d_S_overlaps_5 (by decide) ?_ ?_
  · refine y_iconst (v := (J 0)) d_S_overlaps_35 rfl ?_
    exact y_retI d_S_overlaps_36 rfl (by decide +kernel)
  · refine y_aload_n d_S_overlaps_8 rfl ?_
    refine y_getI d_S_overlaps_9 f_S_9 (fun v2 => ?_)
    refine y_iload_n d_S_overlaps_12 rfl ?_
    refine y_iload_n d_S_overlaps_13 rfl ?_
    refine y_iadd (v := (a1 + a2)) d_S_overlaps_14 rfl ?_
    refine y_icmp_ge (tgt := 35) d_S_overlaps_15 (by decide) ?_ ?_
    · refine y_iconst (v := (J 0)) d_S_overlaps_35 rfl ?_
      exact y_retI d_S_overlaps_36 rfl (by decide +kernel)
    · refine y_iload_n d_S_overlaps_18 rfl ?_
      refine y_aload_n d_S_overlaps_19 rfl ?_
      refine y_getI d_S_overlaps_20 f_S_9 (fun v3 => ?_)
      refine y_aload_n d_S_overlaps_23 rfl ?_
      refine y_getI d_S_overlaps_24 f_S_16 (fun v4 => ?_)
      refine y_iadd (v := (v3 + v4)) d_S_overlaps_27 rfl ?_
      refine y_icmp_ge (tgt := 35) d_S_overlaps_28 (by decide) ?_ ?_
      · refine y_iconst (v := (J 0)) d_S_overlaps_35 rfl ?_
        exact y_retI d_S_overlaps_36 rfl (by decide +kernel)
      · refine y_iconst (v := (J 1)) d_S_overlaps_31 rfl ?_
        refine y_goto (tgt := 36) d_S_overlaps_32 (by decide) ?_
        exact y_retI d_S_overlaps_36 rfl (by decide +kernel)
noncomputable def P_S_moveTo (Θ : mW) (N : Nat) (h : mH) (a0 : Nat) (a1 : Int32) : Option (Unit × mH) :=
  (bo (wF Θ h 3 a0 7 (.int a1)) (fun h1 => (bo (wF Θ h1 3 a0 8 (.int (J 0))) (fun h2 => (some ((), h2))))))
theorem S_S_moveTo (hfl : HF l Θ) (hD : 1 ≤ d) (h : mH) (a0 : Nat) (a1 : Int32) : mMs l Θ d M_S_moveTo [.ref a0, .int a1] h (tR vU) (P_S_moveTo Θ N h a0 a1) := by
  refine mMs.of hfl (by decide +kernel) rfl (Nat.le_of_ble_eq_true rfl) (loc := [some (.ref a0), some (.int a1)]) rfl ?_
  unfold P_S_moveTo
  refine y_aload_n d_S_moveTo_0 rfl ?_
  refine y_iload_n d_S_moveTo_1 rfl ?_
  refine y_put d_S_moveTo_2 p_S_9 rfl rfl (fun h1 => ?_)
  refine y_aload_n d_S_moveTo_5 rfl ?_
  refine y_iconst (v := (J 0)) d_S_moveTo_6 rfl ?_
  refine y_put d_S_moveTo_7 p_S_34 rfl rfl (fun h2 => ?_)
  exact y_retU d_S_moveTo_10 rfl
noncomputable def P_S_floatsAt (Θ : mW) (N : Nat) (h : mH) (a0 : Nat) (a1 : Int32) : Option (Int32 × mH) :=
  (gO Θ h 3 a0 (bc (P_S_isDocked Θ N h a0) (fun v2 h1 => (jn (fun (h4 : mH) => (some ((J 1), h4))) (fun j3 => (if v2 = 0 then (j3 h1) else (bo (rI Θ h1 3 a0 2) (fun v5 => (if a1 < v5 then (some ((J 0), h1)) else (j3 h1))))))))))
theorem S_S_floatsAt (hfl : HF l Θ) (hD : 2 ≤ d) (h : mH) (a0 : Nat) (a1 : Int32) : mMs l Θ d M_S_floatsAt [.ref a0, .int a1] h (tR vI) (P_S_floatsAt Θ N h a0 a1) := by
  refine mMs.of hfl (by decide +kernel) rfl (Nat.le_of_ble_eq_true rfl) (loc := [some (.ref a0), some (.int a1)]) rfl ?_
  unfold P_S_floatsAt
  refine y_aload_n d_S_floatsAt_0 rfl ?_
  refine y_gO (fun fs1 g1 => y_cI (c_vi (rest := []) d_S_floatsAt_1 k_S_isDocked s_S_42 (Or.inl ⟨_, _, _, g1, rfl, rfl⟩) rfl rfl (Nat.le_of_ble_eq_true rfl) (Nat.le_trans (Nat.le_of_ble_eq_true rfl : 1 + 1 ≤ 2) hD) (S_S_isDocked hfl (Nat.le_refl _) h a0)) (fun v2 h1 => ?_))
  refine y_jn (C := fun (j9 : mH → Option (Int32 × mH)) => ∀ (h4 : mH), mY l Θ d M_S_floatsAt 15 [none, none] [] h4 (tR vI) (j9 h4)) (fun h4 => ?_) (fun j3 Hj3 => ?_)
  · refine y_iconst (v := (J 1)) d_S_floatsAt_15 rfl ?_
    refine y_goto (tgt := 20) d_S_floatsAt_16 (by decide) ?_
    exact y_retI d_S_floatsAt_20 rfl (by decide +kernel)
  · refine y_if_eq (tgt := 15) d_S_floatsAt_4 (by decide) ?_ ?_
    · exact y_wk (loc2 := [none, none]) trivial (Hj3 h1)
    · refine y_iload_n d_S_floatsAt_7 rfl ?_
      refine y_aload_n d_S_floatsAt_8 rfl ?_
      refine y_getI d_S_floatsAt_9 f_S_19 (fun v5 => ?_)
      refine y_icmp_lt (tgt := 19) d_S_floatsAt_12 (by decide) ?_ ?_
      · refine y_iconst (v := (J 0)) d_S_floatsAt_19 rfl ?_
        exact y_retI d_S_floatsAt_20 rfl (by decide +kernel)
      · exact y_wk (loc2 := [none, none]) trivial (Hj3 h1)
noncomputable def P_S_end (Θ : mW) (N : Nat) (h : mH) (a0 : Nat) : Option (Int32 × mH) :=
  (bo (rI Θ h 3 a0 7) (fun v1 => (bo (rI Θ h 3 a0 1) (fun v2 => (some ((v1 + v2), h))))))
theorem S_S_end (hfl : HF l Θ) (hD : 1 ≤ d) (h : mH) (a0 : Nat) : mMs l Θ d M_S_end [.ref a0] h (tR vI) (P_S_end Θ N h a0) := by
  refine mMs.of hfl (by decide +kernel) rfl (Nat.le_of_ble_eq_true rfl) (loc := [some (.ref a0)]) rfl ?_
  unfold P_S_end
  refine y_aload_n d_S_end_0 rfl ?_
  refine y_getI d_S_end_1 f_S_9 (fun v1 => ?_)
  refine y_aload_n d_S_end_4 rfl ?_
  refine y_getI d_S_end_5 f_S_16 (fun v2 => ?_)
  refine y_iadd (v := (v1 + v2)) d_S_end_8 rfl ?_
  exact y_retI d_S_end_9 rfl rfl
noncomputable def P_S_ranksBefore (Θ : mW) (N : Nat) (h : mH) (a0 : Nat) (a1 : Nat) : Option (Int32 × mH) :=
  (bo (rI Θ h 3 a0 6) (fun v1 => (bo (rI Θ h 3 a1 6) (fun v2 => (if v1 = v2 then (bo (rI Θ h 3 a0 3) (fun v3 => (bo (rI Θ h 3 a1 3) (fun v4 => (if v3 = v4 then (bo (rI Θ h 3 a0 0) (fun v5 => (bo (rI Θ h 3 a1 0) (fun v6 => (if v6 ≤ v5 then (some ((J 0), h)) else (some ((J 1), h))))))) else (bo (rI Θ h 3 a0 3) (fun v7 => (bo (rI Θ h 3 a1 3) (fun v8 => (if v7 ≤ v8 then (some ((J 0), h)) else (some ((J 1), h)))))))))))) else (bo (rI Θ h 3 a0 6) (fun v9 => (bo (rI Θ h 3 a1 6) (fun v10 => (if v9 ≤ v10 then (some ((J 0), h)) else (some ((J 1), h))))))))))))
theorem S_S_ranksBefore (hfl : HF l Θ) (hD : 1 ≤ d) (h : mH) (a0 : Nat) (a1 : Nat) : mMs l Θ d M_S_ranksBefore [.ref a0, .ref a1] h (tR vI) (P_S_ranksBefore Θ N h a0 a1) := by
  refine mMs.of hfl (by decide +kernel) rfl (Nat.le_of_ble_eq_true rfl) (loc := [some (.ref a0), some (.ref a1)]) rfl ?_
  unfold P_S_ranksBefore
  refine y_aload_n d_S_ranksBefore_0 rfl ?_
  refine y_getI d_S_ranksBefore_1 f_S_31 (fun v1 => ?_)
  refine y_aload_n d_S_ranksBefore_4 rfl ?_
  refine y_getI d_S_ranksBefore_5 f_S_31 (fun v2 => ?_)
  refine y_icmp_eq (tgt := 28) d_S_ranksBefore_8 (by decide) ?_ ?_
  · refine y_aload_n d_S_ranksBefore_28 rfl ?_
    refine y_getI d_S_ranksBefore_29 f_S_22 (fun v3 => ?_)
    refine y_aload_n d_S_ranksBefore_32 rfl ?_
    refine y_getI d_S_ranksBefore_33 f_S_22 (fun v4 => ?_)
    refine y_icmp_eq (tgt := 56) d_S_ranksBefore_36 (by decide) ?_ ?_
    · refine y_aload_n d_S_ranksBefore_56 rfl ?_
      refine y_getI d_S_ranksBefore_57 f_S_13 (fun v5 => ?_)
      refine y_aload_n d_S_ranksBefore_60 rfl ?_
      refine y_getI d_S_ranksBefore_61 f_S_13 (fun v6 => ?_)
      refine y_icmp_ge (tgt := 71) d_S_ranksBefore_64 (by decide) ?_ ?_
      · refine y_iconst (v := (J 0)) d_S_ranksBefore_71 rfl ?_
        exact y_retI d_S_ranksBefore_72 rfl (by decide +kernel)
      · refine y_iconst (v := (J 1)) d_S_ranksBefore_67 rfl ?_
        refine y_goto (tgt := 72) d_S_ranksBefore_68 (by decide) ?_
        exact y_retI d_S_ranksBefore_72 rfl (by decide +kernel)
    · refine y_aload_n d_S_ranksBefore_39 rfl ?_
      refine y_getI d_S_ranksBefore_40 f_S_22 (fun v7 => ?_)
      refine y_aload_n d_S_ranksBefore_43 rfl ?_
      refine y_getI d_S_ranksBefore_44 f_S_22 (fun v8 => ?_)
      refine y_icmp_le (tgt := 54) d_S_ranksBefore_47 (by decide) ?_ ?_
      · refine y_iconst (v := (J 0)) d_S_ranksBefore_54 rfl ?_
        exact y_retI d_S_ranksBefore_55 rfl (by decide +kernel)
      · refine y_iconst (v := (J 1)) d_S_ranksBefore_50 rfl ?_
        refine y_goto (tgt := 55) d_S_ranksBefore_51 (by decide) ?_
        exact y_retI d_S_ranksBefore_55 rfl (by decide +kernel)
  · refine y_aload_n d_S_ranksBefore_11 rfl ?_
    refine y_getI d_S_ranksBefore_12 f_S_31 (fun v9 => ?_)
    refine y_aload_n d_S_ranksBefore_15 rfl ?_
    refine y_getI d_S_ranksBefore_16 f_S_31 (fun v10 => ?_)
    refine y_icmp_le (tgt := 26) d_S_ranksBefore_19 (by decide) ?_ ?_
    · refine y_iconst (v := (J 0)) d_S_ranksBefore_26 rfl ?_
      exact y_retI d_S_ranksBefore_27 rfl (by decide +kernel)
    · refine y_iconst (v := (J 1)) d_S_ranksBefore_22 rfl ?_
      refine y_goto (tgt := 27) d_S_ranksBefore_23 (by decide) ?_
      exact y_retI d_S_ranksBefore_27 rfl (by decide +kernel)
noncomputable def P_B_init (Θ : mW) (N : Nat) (h : mH) (a0 : Nat) : Option (Unit × mH) :=
  (ala Θ h 4 (J 20) (fun n => .inl (0, n, .inl (fun _ => 0))) (fun q1 h2 => (bo (wF Θ h2 4 a0 0 (.ref q1)) (fun h3 => (bo (wF Θ h3 4 a0 1 (.int (J 0))) (fun h4 => (some ((), h4))))))))
theorem S_B_init (hfl : HF l Θ) (hD : 1 ≤ d) (h : mH) (a0 : Nat) : mMs l Θ d M_B_init [.ref a0] h (tR vU) (P_B_init Θ N h a0) := by
  refine mMs.of hfl (by decide +kernel) rfl (Nat.le_of_ble_eq_true rfl) (loc := [some (.ref a0)]) rfl ?_
  unfold P_B_init
  refine y_aload_n d_B_init_0 rfl ?_
  refine y_objInit d_B_init_1 s_B_1 (mG (1, 42) (by decide +kernel)) (mG (1, 43) (by decide +kernel)) (Nat.le_of_ble_eq_true rfl) (Nat.le_trans (Nat.le_of_ble_eq_true rfl) hD) ?_
  refine y_aload_n d_B_init_4 rfl ?_
  refine y_bipush (v := (J 20)) d_B_init_5 (by decide +kernel) ?_
  refine y_newarr (ty := .int) (a0 := fun n => (n, .inl (fun _ => 0))) d_B_init_7 rfl (fun _ => rfl) (mG (1, 144) (by decide +kernel)) (fun _ _ => rfl) (fun _ => rfl) rfl (fun q1 h2 => ?_)
  refine y_putF d_B_init_9 rfl pf_B_9 rfl rfl (fun h3 => ?_)
  refine y_aload_n d_B_init_12 rfl ?_
  refine y_iconst (v := (J 0)) d_B_init_13 rfl ?_
  refine y_put d_B_init_14 p_B_13 rfl rfl (fun h4 => ?_)
  exact y_retU d_B_init_17 rfl
noncomputable def P_B_copyFrom (Θ : mW) (N : Nat) (h : mH) (a0 : Nat) (a1 : Nat) : Option (Unit × mH) :=
  (bo (rA Θ h 4 a1 0) (fun v1 => (bo (rA Θ h 4 a0 0) (fun v2 => (bo (rI Θ h 4 a1 1) (fun v3 => (bo (cpI Θ h 0 v1 (J 0) v2 (J 0) v3) (fun h4 => (bo (rI Θ h4 4 a1 1) (fun v5 => (bo (wF Θ h4 4 a0 1 (.int v5)) (fun h6 => (some ((), h6))))))))))))))
theorem S_B_copyFrom (hfl : HF l Θ) (hD : 1 ≤ d) (h : mH) (a0 : Nat) (a1 : Nat) : mMs l Θ d M_B_copyFrom [.ref a0, .ref a1] h (tR vU) (P_B_copyFrom Θ N h a0 a1) := by
  refine mMs.of hfl (by decide +kernel) rfl (Nat.le_of_ble_eq_true rfl) (loc := [some (.ref a0), some (.ref a1)]) rfl ?_
  unfold P_B_copyFrom
  refine y_aload_n d_B_copyFrom_0 rfl ?_
  refine y_getA d_B_copyFrom_1 f_B_9 (fun v1 => ?_)
  refine y_iconst (v := (J 0)) d_B_copyFrom_4 rfl ?_
  refine y_aload_n d_B_copyFrom_5 rfl ?_
  refine y_getA d_B_copyFrom_6 f_B_9 (fun v2 => ?_)
  refine y_iconst (v := (J 0)) d_B_copyFrom_9 rfl ?_
  refine y_aload_n d_B_copyFrom_10 rfl ?_
  refine y_getI d_B_copyFrom_11 f_B_13 (fun v3 => ?_)
  refine y_acopy (ty := .int) d_B_copyFrom_14 s_B_17 (mG (2, 135) (by decide +kernel)) (mG (2, 134) (by decide +kernel)) (mG (1, 15) (by decide +kernel)) (fun _ => rfl) rfl (Nat.le_of_ble_eq_true rfl) (Nat.le_trans (Nat.le_of_ble_eq_true rfl) hD) (fun _ _ _ _ => rfl) (fun h4 => ?_)
  refine y_aload_n d_B_copyFrom_17 rfl ?_
  refine y_aload_n d_B_copyFrom_18 rfl ?_
  refine y_getI d_B_copyFrom_19 f_B_13 (fun v5 => ?_)
  refine y_put d_B_copyFrom_22 p_B_13 rfl rfl (fun h6 => ?_)
  exact y_retU d_B_copyFrom_25 rfl
noncomputable def B_B_beneathByBlocks_4 (Θ : mW) (N : Nat) (K35 : mH → Int32 → Option (Int32 × mH)) (f0_ : Nat) (f1_ : Nat) (rc : mH → Int32 → Int32 → Option (Int32 × mH)) (h : mH) (v2_ : Int32) (v3_ : Int32) : Option (Int32 × mH) :=
  (bo (rI Θ h 4 f0_ 1) (fun v1 => (if v1 ≤ v3_ then (K35 h v2_) else (bo (rA Θ h 4 f0_ 0) (fun v2 => (bo (aR Θ h 0 v2 v3_) (fun v3 => (gO Θ h 3 f1_ (bc (P_S_overlaps Θ N h f1_ v3 (J 1)) (fun v5 h4 => (jn (fun (h7 : mH) (u8 : Int32) => (rc h7 u8 (v3_ + (J 1)))) (fun j6 => (if v5 = 0 then (j6 h4 v2_) else (j6 h4 (v2_ + (J 1))))))))))))))))
noncomputable def P_B_beneathByBlocks_4 (Θ : mW) (N : Nat) (K35 : mH → Int32 → Option (Int32 × mH)) (f0_ : Nat) (f1_ : Nat) : Nat → mH → Int32 → Int32 → Option (Int32 × mH) :=
  lp (fun _ _ _ => none) (B_B_beneathByBlocks_4 Θ N K35 f0_ f1_)
noncomputable def P_B_beneathByBlocks (Θ : mW) (N : Nat) (h : mH) (a0 : Nat) (a1 : Nat) : Option (Int32 × mH) :=
  (P_B_beneathByBlocks_4 Θ N (fun h9 u10 => (some (u10, h9))) a0 a1 N h (J 0) (J 0))
theorem SB_B_beneathByBlocks_4 (hfl : HF l Θ) (hD : 2 ≤ d) {K35 : mH → Int32 → Option (Int32 × mH)} {f0_ : Nat} {f1_ : Nat}  (hK35 : ∀ (h : mH) (v2_ : Int32), mY l Θ d M_B_beneathByBlocks 35 [none, none, some (.int v2_), none] [] h (tR vI) (K35 h v2_)) (rc : mH → Int32 → Int32 → Option (Int32 × mH)) (ih : ∀ (h : mH) (v2_ : Int32) (v3_ : Int32), mY l Θ d M_B_beneathByBlocks 4 [some (.ref f0_), some (.ref f1_), some (.int v2_), some (.int v3_)] [] h (tR vI) (rc h v2_ v3_)) : ∀ (h : mH) (v2_ : Int32) (v3_ : Int32), mY l Θ d M_B_beneathByBlocks 4 [some (.ref f0_), some (.ref f1_), some (.int v2_), some (.int v3_)] [] h (tR vI) (B_B_beneathByBlocks_4 Θ N K35 f0_ f1_ rc h v2_ v3_) := by
  intro h v2_ v3_
  unfold B_B_beneathByBlocks_4
  refine y_iload_n d_B_beneathByBlocks_4 rfl ?_
  refine y_aload_n d_B_beneathByBlocks_5 rfl ?_
  refine y_getI d_B_beneathByBlocks_6 f_B_13 (fun v1 => ?_)
  refine y_icmp_ge (tgt := 35) d_B_beneathByBlocks_9 (by decide) ?_ ?_
  · exact y_wk (loc2 := [none, none, some (.int v2_), none]) ⟨rfl, trivial⟩ (hK35 h v2_)
  · refine y_aload_n d_B_beneathByBlocks_12 rfl ?_
    refine y_aload_n d_B_beneathByBlocks_13 rfl ?_
    refine y_getA d_B_beneathByBlocks_14 f_B_9 (fun v2 => ?_)
    refine y_iload_n d_B_beneathByBlocks_17 rfl ?_
    refine y_iald d_B_beneathByBlocks_18 (fun v3 => ?_)
    refine y_iconst (v := (J 1)) d_B_beneathByBlocks_19 rfl ?_
    refine y_gO (fun fs1 g1 => y_cI (c_vi (rest := []) d_B_beneathByBlocks_20 k_S_overlaps s_B_56 (Or.inl ⟨_, _, _, g1, rfl, rfl⟩) rfl rfl (Nat.le_of_ble_eq_true rfl) (Nat.le_trans (Nat.le_of_ble_eq_true rfl : 1 + 1 ≤ 2) hD) (S_S_overlaps hfl (Nat.le_refl _) h f1_ v3 (J 1))) (fun v5 h4 => ?_))
    refine y_jn (C := fun (j9 : mH → Int32 → Option (Int32 × mH)) => ∀ (h7 : mH) (u8 : Int32), mY l Θ d M_B_beneathByBlocks 29 [some (.ref f0_), some (.ref f1_), some (.int u8), some (.int v3_)] [] h7 (tR vI) (j9 h7 u8)) (fun h7 u8 => ?_) (fun j6 Hj6 => ?_)
    · refine y_iinc (v := (v3_ + (J 1))) (loc2 := [some (.ref f0_), some (.ref f1_), some (.int u8), some (.int (v3_ + (J 1)))]) d_B_beneathByBlocks_29 rfl rfl (Nat.le_of_ble_eq_true rfl) rfl rfl ?_
      refine y_goto (tgt := 4) d_B_beneathByBlocks_32 (by decide) ?_
      exact ih h7 u8 (v3_ + (J 1))
    · refine y_if_eq (tgt := 29) d_B_beneathByBlocks_23 (by decide) ?_ ?_
      · exact Hj6 h4 v2_
      · refine y_iinc (v := (v2_ + (J 1))) (loc2 := [some (.ref f0_), some (.ref f1_), some (.int (v2_ + (J 1))), some (.int v3_)]) d_B_beneathByBlocks_26 rfl rfl (Nat.le_of_ble_eq_true rfl) rfl rfl ?_
        exact Hj6 h4 (v2_ + (J 1))
theorem S_B_beneathByBlocks_4 (hfl : HF l Θ) (hD : 2 ≤ d) {K35 : mH → Int32 → Option (Int32 × mH)} {f0_ : Nat} {f1_ : Nat}  (hK35 : ∀ (h : mH) (v2_ : Int32), mY l Θ d M_B_beneathByBlocks 35 [none, none, some (.int v2_), none] [] h (tR vI) (K35 h v2_)) : ∀ (n : Nat) (h : mH) (v2_ : Int32) (v3_ : Int32), mY l Θ d M_B_beneathByBlocks 4 [some (.ref f0_), some (.ref f1_), some (.int v2_), some (.int v3_)] [] h (tR vI) (P_B_beneathByBlocks_4 Θ N K35 f0_ f1_ n h v2_ v3_) :=
  fun n => lp_all (C := fun (rc : mH → Int32 → Int32 → Option (Int32 × mH)) => ∀ (h : mH) (v2_ : Int32) (v3_ : Int32), mY l Θ d M_B_beneathByBlocks 4 [some (.ref f0_), some (.ref f1_), some (.int v2_), some (.int v3_)] [] h (tR vI) (rc h v2_ v3_)) (fun _ _ _ => y_none) (fun rc ih => SB_B_beneathByBlocks_4 hfl hD hK35 rc ih) n
theorem S_B_beneathByBlocks (hfl : HF l Θ) (hD : 2 ≤ d) (h : mH) (a0 : Nat) (a1 : Nat) : mMs l Θ d M_B_beneathByBlocks [.ref a0, .ref a1] h (tR vI) (P_B_beneathByBlocks Θ N h a0 a1) := by
  refine mMs.of hfl (by decide +kernel) rfl (Nat.le_of_ble_eq_true rfl) (loc := [some (.ref a0), some (.ref a1), none, none]) rfl ?_
  unfold P_B_beneathByBlocks
  refine y_iconst (v := (J 0)) d_B_beneathByBlocks_0 rfl ?_
  refine y_istore_n (loc2 := [some (.ref a0), some (.ref a1), some (.int (J 0)), none]) d_B_beneathByBlocks_1 (Nat.le_of_ble_eq_true rfl) rfl rfl ?_
  refine y_iconst (v := (J 0)) d_B_beneathByBlocks_2 rfl ?_
  refine y_istore_n (loc2 := [some (.ref a0), some (.ref a1), some (.int (J 0)), some (.int (J 0))]) d_B_beneathByBlocks_3 (Nat.le_of_ble_eq_true rfl) rfl rfl ?_
  refine S_B_beneathByBlocks_4 hfl hD (fun h9 u10 => ?_) N h (J 0) (J 0)
  refine y_iload_n d_B_beneathByBlocks_35 rfl ?_
  exact y_retI d_B_beneathByBlocks_36 rfl rfl
noncomputable def P_B_checkPosition (Θ : mW) (N : Nat) (h : mH) (a0 : Int32) : Option ((Unit ⊕ Nat) × mH) :=
  (if a0 < 0 then (xp 11 (h ++ [oB 11 []])) else (if a0 < (J 60) then (some (.inl (), h)) else (xp 11 (h ++ [oB 11 []]))))
theorem S_B_checkPosition (hfl : HF l Θ) (hD : 6 ≤ d) (h : mH) (a0 : Int32) : mMs l Θ d M_B_checkPosition [.int a0] h (tX vU) (P_B_checkPosition Θ N h a0) := by
  refine mMs.of hfl (by decide +kernel) rfl (Nat.le_of_ble_eq_true rfl) (loc := [some (.int a0)]) rfl ?_
  unfold P_B_checkPosition
  refine y_iload_n d_B_checkPosition_0 rfl ?_
  refine y_if_lt (tgt := 10) d_B_checkPosition_1 (by decide) ?_ ?_
  · exact y_throw rfl d_B_checkPosition_10 d_B_checkPosition_13 d_B_checkPosition_14 d_B_checkPosition_16 d_B_checkPosition_19 mExc_11 y_B_25 x_B_29 (List.mem_of_getElem? (i := 12) rfl) (Nat.le_of_ble_eq_true rfl) (Nat.le_trans (Nat.le_of_ble_eq_true rfl) hD)
  · refine y_iload_n d_B_checkPosition_4 rfl ?_
    refine y_bipush (v := (J 60)) d_B_checkPosition_5 (by decide +kernel) ?_
    refine y_icmp_lt (tgt := 20) d_B_checkPosition_7 (by decide) ?_ ?_
    · exact y_retUX d_B_checkPosition_20 rfl
    · exact y_throw rfl d_B_checkPosition_10 d_B_checkPosition_13 d_B_checkPosition_14 d_B_checkPosition_16 d_B_checkPosition_19 mExc_11 y_B_25 x_B_29 (List.mem_of_getElem? (i := 12) rfl) (Nat.le_of_ble_eq_true rfl) (Nat.le_trans (Nat.le_of_ble_eq_true rfl) hD)
noncomputable def P_B_isFull (Θ : mW) (N : Nat) (h : mH) (a0 : Nat) : Option (Int32 × mH) :=
  (bo (rI Θ h 4 a0 1) (fun v1 => (if v1 < (J 20) then (some ((J 0), h)) else (some ((J 1), h)))))
theorem S_B_isFull (hfl : HF l Θ) (hD : 1 ≤ d) (h : mH) (a0 : Nat) : mMs l Θ d M_B_isFull [.ref a0] h (tR vI) (P_B_isFull Θ N h a0) := by
  refine mMs.of hfl (by decide +kernel) rfl (Nat.le_of_ble_eq_true rfl) (loc := [some (.ref a0)]) rfl ?_
  unfold P_B_isFull
  refine y_aload_n d_B_isFull_0 rfl ?_
  refine y_getI d_B_isFull_1 f_B_13 (fun v1 => ?_)
  refine y_bipush (v := (J 20)) d_B_isFull_4 (by decide +kernel) ?_
  refine y_icmp_lt (tgt := 13) d_B_isFull_6 (by decide) ?_ ?_
  · refine y_iconst (v := (J 0)) d_B_isFull_13 rfl ?_
    exact y_retI d_B_isFull_14 rfl (by decide +kernel)
  · refine y_iconst (v := (J 1)) d_B_isFull_9 rfl ?_
    refine y_goto (tgt := 14) d_B_isFull_10 (by decide) ?_
    exact y_retI d_B_isFull_14 rfl (by decide +kernel)
noncomputable def B_B_indexOf_2 (Θ : mW) (N : Nat) (K28 : mH → Option (Int32 × mH)) (f0_ : Nat) (f1_ : Int32) (rc : mH → Int32 → Option (Int32 × mH)) (h : mH) (v2_ : Int32) : Option (Int32 × mH) :=
  (bo (rI Θ h 4 f0_ 1) (fun v1 => (if v1 ≤ v2_ then (K28 h) else (bo (rA Θ h 4 f0_ 0) (fun v2 => (bo (aR Θ h 0 v2 v2_) (fun v3 => (if v3 = f1_ then (some (v2_, h)) else (rc h (v2_ + (J 1)))))))))))
noncomputable def P_B_indexOf_2 (Θ : mW) (N : Nat) (K28 : mH → Option (Int32 × mH)) (f0_ : Nat) (f1_ : Int32) : Nat → mH → Int32 → Option (Int32 × mH) :=
  lp (fun _ _ => none) (B_B_indexOf_2 Θ N K28 f0_ f1_)
noncomputable def P_B_indexOf (Θ : mW) (N : Nat) (h : mH) (a0 : Nat) (a1 : Int32) : Option (Int32 × mH) :=
  (P_B_indexOf_2 Θ N (fun h4 => (some ((J (-1)), h4))) a0 a1 N h (J 0))
theorem SB_B_indexOf_2 (hfl : HF l Θ) (hD : 1 ≤ d) {K28 : mH → Option (Int32 × mH)} {f0_ : Nat} {f1_ : Int32}  (hK28 : ∀ (h : mH), mY l Θ d M_B_indexOf 28 [none, none, none] [] h (tR vI) (K28 h)) (rc : mH → Int32 → Option (Int32 × mH)) (ih : ∀ (h : mH) (v2_ : Int32), mY l Θ d M_B_indexOf 2 [some (.ref f0_), some (.int f1_), some (.int v2_)] [] h (tR vI) (rc h v2_)) : ∀ (h : mH) (v2_ : Int32), mY l Θ d M_B_indexOf 2 [some (.ref f0_), some (.int f1_), some (.int v2_)] [] h (tR vI) (B_B_indexOf_2 Θ N K28 f0_ f1_ rc h v2_) := by
  intro h v2_
  unfold B_B_indexOf_2
  refine y_iload_n d_B_indexOf_2 rfl ?_
  refine y_aload_n d_B_indexOf_3 rfl ?_
  refine y_getI d_B_indexOf_4 f_B_13 (fun v1 => ?_)
  refine y_icmp_ge (tgt := 28) d_B_indexOf_7 (by decide) ?_ ?_
  · exact y_wk (loc2 := [none, none, none]) trivial (hK28 h)
  · refine y_aload_n d_B_indexOf_10 rfl ?_
    refine y_getA d_B_indexOf_11 f_B_9 (fun v2 => ?_)
    refine y_iload_n d_B_indexOf_14 rfl ?_
    refine y_iald d_B_indexOf_15 (fun v3 => ?_)
    refine y_iload_n d_B_indexOf_16 rfl ?_
    refine y_icmp_ne (tgt := 22) d_B_indexOf_17 (by decide) ?_ ?_
    · refine y_iinc (v := (v2_ + (J 1))) (loc2 := [some (.ref f0_), some (.int f1_), some (.int (v2_ + (J 1)))]) d_B_indexOf_22 rfl rfl (Nat.le_of_ble_eq_true rfl) rfl rfl ?_
      refine y_goto (tgt := 2) d_B_indexOf_25 (by decide) ?_
      exact ih h (v2_ + (J 1))
    · refine y_iload_n d_B_indexOf_20 rfl ?_
      exact y_retI d_B_indexOf_21 rfl rfl
theorem S_B_indexOf_2 (hfl : HF l Θ) (hD : 1 ≤ d) {K28 : mH → Option (Int32 × mH)} {f0_ : Nat} {f1_ : Int32}  (hK28 : ∀ (h : mH), mY l Θ d M_B_indexOf 28 [none, none, none] [] h (tR vI) (K28 h)) : ∀ (n : Nat) (h : mH) (v2_ : Int32), mY l Θ d M_B_indexOf 2 [some (.ref f0_), some (.int f1_), some (.int v2_)] [] h (tR vI) (P_B_indexOf_2 Θ N K28 f0_ f1_ n h v2_) :=
  fun n => lp_all (C := fun (rc : mH → Int32 → Option (Int32 × mH)) => ∀ (h : mH) (v2_ : Int32), mY l Θ d M_B_indexOf 2 [some (.ref f0_), some (.int f1_), some (.int v2_)] [] h (tR vI) (rc h v2_)) (fun _ _ => y_none) (fun rc ih => SB_B_indexOf_2 hfl hD hK28 rc ih) n
theorem S_B_indexOf (hfl : HF l Θ) (hD : 1 ≤ d) (h : mH) (a0 : Nat) (a1 : Int32) : mMs l Θ d M_B_indexOf [.ref a0, .int a1] h (tR vI) (P_B_indexOf Θ N h a0 a1) := by
  refine mMs.of hfl (by decide +kernel) rfl (Nat.le_of_ble_eq_true rfl) (loc := [some (.ref a0), some (.int a1), none]) rfl ?_
  unfold P_B_indexOf
  refine y_iconst (v := (J 0)) d_B_indexOf_0 rfl ?_
  refine y_istore_n (loc2 := [some (.ref a0), some (.int a1), some (.int (J 0))]) d_B_indexOf_1 (Nat.le_of_ble_eq_true rfl) rfl rfl ?_
  refine S_B_indexOf_2 hfl hD (fun h4 => ?_) N h (J 0)
  refine y_iconst (v := (J (-1))) d_B_indexOf_28 rfl ?_
  exact y_retI d_B_indexOf_29 rfl rfl
noncomputable def P_B_isAt (Θ : mW) (N : Nat) (h : mH) (a0 : Nat) (a1 : Int32) : Option (Int32 × mH) :=
  (gO Θ h 4 a0 (bc (P_B_indexOf Θ N h a0 a1) (fun v2 h1 => (if v2 = (J (-1)) then (some ((J 0), h1)) else (some ((J 1), h1))))))
theorem S_B_isAt (hfl : HF l Θ) (hD : 2 ≤ d) (h : mH) (a0 : Nat) (a1 : Int32) : mMs l Θ d M_B_isAt [.ref a0, .int a1] h (tR vI) (P_B_isAt Θ N h a0 a1) := by
  refine mMs.of hfl (by decide +kernel) rfl (Nat.le_of_ble_eq_true rfl) (loc := [some (.ref a0), some (.int a1)]) rfl ?_
  unfold P_B_isAt
  refine y_aload_n d_B_isAt_0 rfl ?_
  refine y_iload_n d_B_isAt_1 rfl ?_
  refine y_gO (fun fs1 g1 => y_cI (c_vi (rest := []) d_B_isAt_2 k_B_indexOf s_B_32 (Or.inl ⟨_, _, _, g1, rfl, rfl⟩) rfl rfl (Nat.le_of_ble_eq_true rfl) (Nat.le_trans (Nat.le_of_ble_eq_true rfl : 1 + 1 ≤ 2) hD) (S_B_indexOf hfl (Nat.le_refl _) h a0 a1)) (fun v2 h1 => ?_))
  refine y_iconst (v := (J (-1))) d_B_isAt_5 rfl ?_
  refine y_icmp_eq (tgt := 13) d_B_isAt_6 (by decide) ?_ ?_
  · refine y_iconst (v := (J 0)) d_B_isAt_13 rfl ?_
    exact y_retI d_B_isAt_14 rfl (by decide +kernel)
  · refine y_iconst (v := (J 1)) d_B_isAt_9 rfl ?_
    refine y_goto (tgt := 14) d_B_isAt_10 (by decide) ?_
    exact y_retI d_B_isAt_14 rfl (by decide +kernel)
noncomputable def P_B_add (Θ : mW) (N : Nat) (h : mH) (a0 : Nat) (a1 : Int32) : Option (Unit × mH) :=
  (gO Θ h 4 a0 (bc (P_B_isFull Θ N h a0) (fun v2 h1 => (if v2 = 0 then (bo (rA Θ h1 4 a0 0) (fun v3 => (bo (rI Θ h1 4 a0 1) (fun v4 => (bo (aW Θ h1 0 v3 v4 a1) (fun h5 => (bo (rI Θ h5 4 a0 1) (fun v6 => (bo (wF Θ h5 4 a0 1 (.int (v6 + (J 1)))) (fun h7 => (some ((), h7)))))))))))) else (some ((), h1))))))
theorem S_B_add (hfl : HF l Θ) (hD : 2 ≤ d) (h : mH) (a0 : Nat) (a1 : Int32) : mMs l Θ d M_B_add [.ref a0, .int a1] h (tR vU) (P_B_add Θ N h a0 a1) := by
  refine mMs.of hfl (by decide +kernel) rfl (Nat.le_of_ble_eq_true rfl) (loc := [some (.ref a0), some (.int a1)]) rfl ?_
  unfold P_B_add
  refine y_aload_n d_B_add_0 rfl ?_
  refine y_gO (fun fs1 g1 => y_cI (c_vi (rest := []) d_B_add_1 k_B_isFull s_B_36 (Or.inl ⟨_, _, _, g1, rfl, rfl⟩) rfl rfl (Nat.le_of_ble_eq_true rfl) (Nat.le_trans (Nat.le_of_ble_eq_true rfl : 1 + 1 ≤ 2) hD) (S_B_isFull hfl (Nat.le_refl _) h a0)) (fun v2 h1 => ?_))
  refine y_if_ne (tgt := 27) d_B_add_4 (by decide) ?_ ?_
  · exact y_retU d_B_add_27 rfl
  · refine y_aload_n d_B_add_7 rfl ?_
    refine y_getA d_B_add_8 f_B_9 (fun v3 => ?_)
    refine y_aload_n d_B_add_11 rfl ?_
    refine y_getI d_B_add_12 f_B_13 (fun v4 => ?_)
    refine y_iload_n d_B_add_15 rfl ?_
    refine y_iast d_B_add_16 (fun h5 => ?_)
    refine y_aload_n d_B_add_17 rfl ?_
    refine y_dup d_B_add_18 rfl ?_
    refine y_getI d_B_add_19 f_B_13 (fun v6 => ?_)
    refine y_iconst (v := (J 1)) d_B_add_22 rfl ?_
    refine y_iadd (v := (v6 + (J 1))) d_B_add_23 rfl ?_
    refine y_put d_B_add_24 p_B_13 rfl rfl (fun h7 => ?_)
    exact y_retU d_B_add_27 rfl
noncomputable def P_B_remove (Θ : mW) (N : Nat) (h : mH) (a0 : Nat) (a1 : Int32) : Option (Unit × mH) :=
  (gO Θ h 4 a0 (bc (P_B_indexOf Θ N h a0 a1) (fun v2 h1 => (if v2 = (J (-1)) then (some ((), h1)) else (bo (rI Θ h1 4 a0 1) (fun v3 => (bo (wF Θ h1 4 a0 1 (.int (v3 - (J 1)))) (fun h4 => (bo (rA Θ h4 4 a0 0) (fun v5 => (bo (rA Θ h4 4 a0 0) (fun v6 => (bo (rI Θ h4 4 a0 1) (fun v7 => (bo (aR Θ h4 0 v6 v7) (fun v8 => (bo (aW Θ h4 0 v5 v2 v8) (fun h9 => (some ((), h9))))))))))))))))))))
theorem S_B_remove (hfl : HF l Θ) (hD : 2 ≤ d) (h : mH) (a0 : Nat) (a1 : Int32) : mMs l Θ d M_B_remove [.ref a0, .int a1] h (tR vU) (P_B_remove Θ N h a0 a1) := by
  refine mMs.of hfl (by decide +kernel) rfl (Nat.le_of_ble_eq_true rfl) (loc := [some (.ref a0), some (.int a1), none]) rfl ?_
  unfold P_B_remove
  refine y_aload_n d_B_remove_0 rfl ?_
  refine y_iload_n d_B_remove_1 rfl ?_
  refine y_gO (fun fs1 g1 => y_cI (c_vi (rest := []) d_B_remove_2 k_B_indexOf s_B_32 (Or.inl ⟨_, _, _, g1, rfl, rfl⟩) rfl rfl (Nat.le_of_ble_eq_true rfl) (Nat.le_trans (Nat.le_of_ble_eq_true rfl : 1 + 1 ≤ 2) hD) (S_B_indexOf hfl (Nat.le_refl _) h a0 a1)) (fun v2 h1 => ?_))
  refine y_istore_n (loc2 := [some (.ref a0), some (.int a1), some (.int v2)]) d_B_remove_5 (Nat.le_of_ble_eq_true rfl) rfl rfl ?_
  refine y_iload_n d_B_remove_6 rfl ?_
  refine y_iconst (v := (J (-1))) d_B_remove_7 rfl ?_
  refine y_icmp_eq (tgt := 36) d_B_remove_8 (by decide) ?_ ?_
  · exact y_retU d_B_remove_36 rfl
  · refine y_aload_n d_B_remove_11 rfl ?_
    refine y_dup d_B_remove_12 rfl ?_
    refine y_getI d_B_remove_13 f_B_13 (fun v3 => ?_)
    refine y_iconst (v := (J 1)) d_B_remove_16 rfl ?_
    refine y_isub (v := (v3 - (J 1))) d_B_remove_17 rfl ?_
    refine y_put d_B_remove_18 p_B_13 rfl rfl (fun h4 => ?_)
    refine y_aload_n d_B_remove_21 rfl ?_
    refine y_getA d_B_remove_22 f_B_9 (fun v5 => ?_)
    refine y_iload_n d_B_remove_25 rfl ?_
    refine y_aload_n d_B_remove_26 rfl ?_
    refine y_getA d_B_remove_27 f_B_9 (fun v6 => ?_)
    refine y_aload_n d_B_remove_30 rfl ?_
    refine y_getI d_B_remove_31 f_B_13 (fun v7 => ?_)
    refine y_iald d_B_remove_34 (fun v8 => ?_)
    refine y_iast d_B_remove_35 (fun h9 => ?_)
    exact y_retU d_B_remove_36 rfl
noncomputable def B_B_beneathByMetres_14 (Θ : mW) (N : Nat) (K39 : mH → Int32 → Option (Int32 × mH)) (f0_ : Nat) (f1_ : Nat) (rc : mH → Int32 → Int32 → Option (Int32 × mH)) (h : mH) (v2_ : Int32) (v3_ : Int32) : Option (Int32 × mH) :=
  (gO Θ h 3 f1_ (bc (P_S_end Θ N h f1_) (fun v5 h4 => (if v5 ≤ v3_ then (K39 h4 v2_) else (gO Θ h4 4 f0_ (bc (P_B_isAt Θ N h4 f0_ v3_) (fun v7 h6 => (jn (fun (h9 : mH) (u10 : Int32) => (rc h9 u10 (v3_ + (J 1)))) (fun j8 => (if v7 = 0 then (j8 h6 v2_) else (j8 h6 (v2_ + (J 1)))))))))))))
noncomputable def P_B_beneathByMetres_14 (Θ : mW) (N : Nat) (K39 : mH → Int32 → Option (Int32 × mH)) (f0_ : Nat) (f1_ : Nat) : Nat → mH → Int32 → Int32 → Option (Int32 × mH) :=
  lp (fun _ _ _ => none) (B_B_beneathByMetres_14 Θ N K39 f0_ f1_)
noncomputable def P_B_beneathByMetres (Θ : mW) (N : Nat) (h : mH) (a0 : Nat) (a1 : Nat) : Option (Int32 × mH) :=
  (gO Θ h 3 a1 (bc (P_S_isDocked Θ N h a1) (fun v2 h1 => (if v2 = 0 then (some ((J 0), h1)) else (bo (rI Θ h1 3 a1 7) (fun v3 => (P_B_beneathByMetres_14 Θ N (fun h11 u12 => (some (u12, h11))) a0 a1 N h1 (J 0) v3)))))))
theorem SB_B_beneathByMetres_14 (hfl : HF l Θ) (hD : 3 ≤ d) {K39 : mH → Int32 → Option (Int32 × mH)} {f0_ : Nat} {f1_ : Nat}  (hK39 : ∀ (h : mH) (v2_ : Int32), mY l Θ d M_B_beneathByMetres 39 [none, none, some (.int v2_), none] [] h (tR vI) (K39 h v2_)) (rc : mH → Int32 → Int32 → Option (Int32 × mH)) (ih : ∀ (h : mH) (v2_ : Int32) (v3_ : Int32), mY l Θ d M_B_beneathByMetres 14 [some (.ref f0_), some (.ref f1_), some (.int v2_), some (.int v3_)] [] h (tR vI) (rc h v2_ v3_)) : ∀ (h : mH) (v2_ : Int32) (v3_ : Int32), mY l Θ d M_B_beneathByMetres 14 [some (.ref f0_), some (.ref f1_), some (.int v2_), some (.int v3_)] [] h (tR vI) (B_B_beneathByMetres_14 Θ N K39 f0_ f1_ rc h v2_ v3_) := by
  intro h v2_ v3_
  unfold B_B_beneathByMetres_14
  refine y_iload_n d_B_beneathByMetres_14 rfl ?_
  refine y_aload_n d_B_beneathByMetres_15 rfl ?_
  refine y_gO (fun fs1 g1 => y_cI (c_vi (rest := [.int v3_]) d_B_beneathByMetres_16 k_S_end s_B_48 (Or.inl ⟨_, _, _, g1, rfl, rfl⟩) rfl rfl (Nat.le_of_ble_eq_true rfl) (Nat.le_trans (Nat.le_of_ble_eq_true rfl : 1 + 1 ≤ 3) hD) (S_S_end hfl (Nat.le_refl _) h f1_)) (fun v5 h4 => ?_))
  refine y_icmp_ge (tgt := 39) d_B_beneathByMetres_19 (by decide) ?_ ?_
  · exact y_wk (loc2 := [none, none, some (.int v2_), none]) ⟨rfl, trivial⟩ (hK39 h4 v2_)
  · refine y_aload_n d_B_beneathByMetres_22 rfl ?_
    refine y_iload_n d_B_beneathByMetres_23 rfl ?_
    refine y_gO (fun fs1 g1 => y_cI (c_vi (rest := []) d_B_beneathByMetres_24 k_B_isAt s_B_52 (Or.inl ⟨_, _, _, g1, rfl, rfl⟩) rfl rfl (Nat.le_of_ble_eq_true rfl) (Nat.le_trans (Nat.le_of_ble_eq_true rfl : 2 + 1 ≤ 3) hD) (S_B_isAt hfl (Nat.le_refl _) h4 f0_ v3_)) (fun v7 h6 => ?_))
    refine y_jn (C := fun (j9 : mH → Int32 → Option (Int32 × mH)) => ∀ (h9 : mH) (u10 : Int32), mY l Θ d M_B_beneathByMetres 33 [some (.ref f0_), some (.ref f1_), some (.int u10), some (.int v3_)] [] h9 (tR vI) (j9 h9 u10)) (fun h9 u10 => ?_) (fun j8 Hj8 => ?_)
    · refine y_iinc (v := (v3_ + (J 1))) (loc2 := [some (.ref f0_), some (.ref f1_), some (.int u10), some (.int (v3_ + (J 1)))]) d_B_beneathByMetres_33 rfl rfl (Nat.le_of_ble_eq_true rfl) rfl rfl ?_
      refine y_goto (tgt := 14) d_B_beneathByMetres_36 (by decide) ?_
      exact ih h9 u10 (v3_ + (J 1))
    · refine y_if_eq (tgt := 33) d_B_beneathByMetres_27 (by decide) ?_ ?_
      · exact Hj8 h6 v2_
      · refine y_iinc (v := (v2_ + (J 1))) (loc2 := [some (.ref f0_), some (.ref f1_), some (.int (v2_ + (J 1))), some (.int v3_)]) d_B_beneathByMetres_30 rfl rfl (Nat.le_of_ble_eq_true rfl) rfl rfl ?_
        exact Hj8 h6 (v2_ + (J 1))
theorem S_B_beneathByMetres_14 (hfl : HF l Θ) (hD : 3 ≤ d) {K39 : mH → Int32 → Option (Int32 × mH)} {f0_ : Nat} {f1_ : Nat}  (hK39 : ∀ (h : mH) (v2_ : Int32), mY l Θ d M_B_beneathByMetres 39 [none, none, some (.int v2_), none] [] h (tR vI) (K39 h v2_)) : ∀ (n : Nat) (h : mH) (v2_ : Int32) (v3_ : Int32), mY l Θ d M_B_beneathByMetres 14 [some (.ref f0_), some (.ref f1_), some (.int v2_), some (.int v3_)] [] h (tR vI) (P_B_beneathByMetres_14 Θ N K39 f0_ f1_ n h v2_ v3_) :=
  fun n => lp_all (C := fun (rc : mH → Int32 → Int32 → Option (Int32 × mH)) => ∀ (h : mH) (v2_ : Int32) (v3_ : Int32), mY l Θ d M_B_beneathByMetres 14 [some (.ref f0_), some (.ref f1_), some (.int v2_), some (.int v3_)] [] h (tR vI) (rc h v2_ v3_)) (fun _ _ _ => y_none) (fun rc ih => SB_B_beneathByMetres_14 hfl hD hK39 rc ih) n
theorem S_B_beneathByMetres (hfl : HF l Θ) (hD : 3 ≤ d) (h : mH) (a0 : Nat) (a1 : Nat) : mMs l Θ d M_B_beneathByMetres [.ref a0, .ref a1] h (tR vI) (P_B_beneathByMetres Θ N h a0 a1) := by
  refine mMs.of hfl (by decide +kernel) rfl (Nat.le_of_ble_eq_true rfl) (loc := [some (.ref a0), some (.ref a1), none, none]) rfl ?_
  unfold P_B_beneathByMetres
  refine y_iconst (v := (J 0)) d_B_beneathByMetres_0 rfl ?_
  refine y_istore_n (loc2 := [some (.ref a0), some (.ref a1), some (.int (J 0)), none]) d_B_beneathByMetres_1 (Nat.le_of_ble_eq_true rfl) rfl rfl ?_
  refine y_aload_n d_B_beneathByMetres_2 rfl ?_
  refine y_gO (fun fs1 g1 => y_cI (c_vi (rest := []) d_B_beneathByMetres_3 k_S_isDocked s_B_40 (Or.inl ⟨_, _, _, g1, rfl, rfl⟩) rfl rfl (Nat.le_of_ble_eq_true rfl) (Nat.le_trans (Nat.le_of_ble_eq_true rfl : 1 + 1 ≤ 3) hD) (S_S_isDocked hfl (Nat.le_refl _) h a1)) (fun v2 h1 => ?_))
  refine y_if_eq (tgt := 39) d_B_beneathByMetres_6 (by decide) ?_ ?_
  · refine y_iload_n d_B_beneathByMetres_39 rfl ?_
    exact y_retI d_B_beneathByMetres_40 rfl rfl
  · refine y_aload_n d_B_beneathByMetres_9 rfl ?_
    refine y_getI d_B_beneathByMetres_10 f_B_45 (fun v3 => ?_)
    refine y_istore_n (loc2 := [some (.ref a0), some (.ref a1), some (.int (J 0)), some (.int v3)]) d_B_beneathByMetres_13 (Nat.le_of_ble_eq_true rfl) rfl rfl ?_
    refine S_B_beneathByMetres_14 hfl hD (fun h11 u12 => ?_) N h1 (J 0) v3
    refine y_iload_n d_B_beneathByMetres_39 rfl ?_
    exact y_retI d_B_beneathByMetres_40 rfl rfl
noncomputable def B_B_waysAgree_2 (Θ : mW) (N : Nat) (K41 : mH → Option (Int32 × mH)) (f0_ : Nat) (f1_ : Nat) (rc : mH → Int32 → Option (Int32 × mH)) (h : mH) (v2_ : Int32) : Option (Int32 × mH) :=
  (bo (rI Θ h 2 f1_ 1) (fun v1 => (if v1 ≤ v2_ then (K41 h) else (bo (rA Θ h 2 f1_ 0) (fun v2 => (bo (aRQ Θ h 5 v2 v2_) (fun v3 => (gO Θ h 4 f0_ (bc (P_B_beneathByMetres Θ N h f0_ v3) (fun v5 h4 => (bo (rA Θ h4 2 f1_ 0) (fun v6 => (bo (aRQ Θ h4 5 v6 v2_) (fun v7 => (gO Θ h4 4 f0_ (bc (P_B_beneathByBlocks Θ N h4 f0_ v7) (fun v9 h8 => (if v5 = v9 then (rc h8 (v2_ + (J 1))) else (some ((J 0), h8))))))))))))))))))))
noncomputable def P_B_waysAgree_2 (Θ : mW) (N : Nat) (K41 : mH → Option (Int32 × mH)) (f0_ : Nat) (f1_ : Nat) : Nat → mH → Int32 → Option (Int32 × mH) :=
  lp (fun _ _ => none) (B_B_waysAgree_2 Θ N K41 f0_ f1_)
noncomputable def P_B_waysAgree (Θ : mW) (N : Nat) (h : mH) (a0 : Nat) (a1 : Nat) : Option (Int32 × mH) :=
  (P_B_waysAgree_2 Θ N (fun h10 => (some ((J 1), h10))) a0 a1 N h (J 0))
theorem SB_B_waysAgree_2 (hfl : HF l Θ) (hD : 4 ≤ d) {K41 : mH → Option (Int32 × mH)} {f0_ : Nat} {f1_ : Nat}  (hK41 : ∀ (h : mH), mY l Θ d M_B_waysAgree 41 [none, none, none] [] h (tR vI) (K41 h)) (rc : mH → Int32 → Option (Int32 × mH)) (ih : ∀ (h : mH) (v2_ : Int32), mY l Θ d M_B_waysAgree 2 [some (.ref f0_), some (.ref f1_), some (.int v2_)] [] h (tR vI) (rc h v2_)) : ∀ (h : mH) (v2_ : Int32), mY l Θ d M_B_waysAgree 2 [some (.ref f0_), some (.ref f1_), some (.int v2_)] [] h (tR vI) (B_B_waysAgree_2 Θ N K41 f0_ f1_ rc h v2_) := by
  intro h v2_
  unfold B_B_waysAgree_2
  refine y_iload_n d_B_waysAgree_2 rfl ?_
  refine y_aload_n d_B_waysAgree_3 rfl ?_
  refine y_getI d_B_waysAgree_4 f_B_60 (fun v1 => ?_)
  refine y_icmp_ge (tgt := 41) d_B_waysAgree_7 (by decide) ?_ ?_
  · exact y_wk (loc2 := [none, none, none]) trivial (hK41 h)
  · refine y_aload_n d_B_waysAgree_10 rfl ?_
    refine y_aload_n d_B_waysAgree_11 rfl ?_
    refine y_getA d_B_waysAgree_12 f_B_61 (fun v2 => ?_)
    refine y_iload_n d_B_waysAgree_15 rfl ?_
    refine y_qald (Or.inl rfl) d_B_waysAgree_16 (fun v3 => ?_)
    refine y_gO (fun fs1 g1 => y_cI (c_vi (rest := []) d_B_waysAgree_17 k_B_beneathByMetres s_B_65 (Or.inl ⟨_, _, _, g1, rfl, rfl⟩) rfl rfl (Nat.le_of_ble_eq_true rfl) (Nat.le_trans (Nat.le_of_ble_eq_true rfl : 3 + 1 ≤ 4) hD) (S_B_beneathByMetres hfl (Nat.le_refl _) h f0_ v3)) (fun v5 h4 => ?_))
    refine y_aload_n d_B_waysAgree_20 rfl ?_
    refine y_aload_n d_B_waysAgree_21 rfl ?_
    refine y_getA d_B_waysAgree_22 f_B_61 (fun v6 => ?_)
    refine y_iload_n d_B_waysAgree_25 rfl ?_
    refine y_qald (Or.inl rfl) d_B_waysAgree_26 (fun v7 => ?_)
    refine y_gO (fun fs1 g1 => y_cI (c_vi (rest := [.int v5]) d_B_waysAgree_27 k_B_beneathByBlocks s_B_69 (Or.inl ⟨_, _, _, g1, rfl, rfl⟩) rfl rfl (Nat.le_of_ble_eq_true rfl) (Nat.le_trans (Nat.le_of_ble_eq_true rfl : 2 + 1 ≤ 4) hD) (S_B_beneathByBlocks hfl (Nat.le_refl _) h4 f0_ v7)) (fun v9 h8 => ?_))
    refine y_icmp_eq (tgt := 35) d_B_waysAgree_30 (by decide) ?_ ?_
    · refine y_iinc (v := (v2_ + (J 1))) (loc2 := [some (.ref f0_), some (.ref f1_), some (.int (v2_ + (J 1)))]) d_B_waysAgree_35 rfl rfl (Nat.le_of_ble_eq_true rfl) rfl rfl ?_
      refine y_goto (tgt := 2) d_B_waysAgree_38 (by decide) ?_
      exact ih h8 (v2_ + (J 1))
    · refine y_iconst (v := (J 0)) d_B_waysAgree_33 rfl ?_
      exact y_retI d_B_waysAgree_34 rfl (by decide +kernel)
theorem S_B_waysAgree_2 (hfl : HF l Θ) (hD : 4 ≤ d) {K41 : mH → Option (Int32 × mH)} {f0_ : Nat} {f1_ : Nat}  (hK41 : ∀ (h : mH), mY l Θ d M_B_waysAgree 41 [none, none, none] [] h (tR vI) (K41 h)) : ∀ (n : Nat) (h : mH) (v2_ : Int32), mY l Θ d M_B_waysAgree 2 [some (.ref f0_), some (.ref f1_), some (.int v2_)] [] h (tR vI) (P_B_waysAgree_2 Θ N K41 f0_ f1_ n h v2_) :=
  fun n => lp_all (C := fun (rc : mH → Int32 → Option (Int32 × mH)) => ∀ (h : mH) (v2_ : Int32), mY l Θ d M_B_waysAgree 2 [some (.ref f0_), some (.ref f1_), some (.int v2_)] [] h (tR vI) (rc h v2_)) (fun _ _ => y_none) (fun rc ih => SB_B_waysAgree_2 hfl hD hK41 rc ih) n
theorem S_B_waysAgree (hfl : HF l Θ) (hD : 4 ≤ d) (h : mH) (a0 : Nat) (a1 : Nat) : mMs l Θ d M_B_waysAgree [.ref a0, .ref a1] h (tR vI) (P_B_waysAgree Θ N h a0 a1) := by
  refine mMs.of hfl (by decide +kernel) rfl (Nat.le_of_ble_eq_true rfl) (loc := [some (.ref a0), some (.ref a1), none]) rfl ?_
  unfold P_B_waysAgree
  refine y_iconst (v := (J 0)) d_B_waysAgree_0 rfl ?_
  refine y_istore_n (loc2 := [some (.ref a0), some (.ref a1), some (.int (J 0))]) d_B_waysAgree_1 (Nat.le_of_ble_eq_true rfl) rfl rfl ?_
  refine S_B_waysAgree_2 hfl hD (fun h10 => ?_) N h (J 0)
  refine y_iconst (v := (J 1)) d_B_waysAgree_41 rfl ?_
  exact y_retI d_B_waysAgree_42 rfl (by decide +kernel)
noncomputable def B_L_init_25 (Θ : mW) (N : Nat) (K53 : mH → Option (Unit × mH)) (f0_ : Nat) (rc : mH → Int32 → Option (Unit × mH)) (h : mH) (v1_ : Int32) : Option (Unit × mH) :=
  (bo (rA Θ h 2 f0_ 0) (fun v6 => (bo (aN Θ h v6) (fun v7 => (if v7 ≤ v1_ then (K53 h) else (bo (rA Θ h 2 f0_ 0) (fun v8 => (al Θ h (oB 3 [.int 0, .int 0, .int 0, .int 0, .int 0, .int 0, .int 0, .int 0, .int 0]) (fun q9 h10 => (bc (P_S_init Θ N h10 q9) (fun v12 h11 => (bo (aWQ Θ h11 5 3 v8 v1_ q9) (fun h13 => (rc h13 (v1_ + (J 1))))))))))))))))
noncomputable def P_L_init_25 (Θ : mW) (N : Nat) (K53 : mH → Option (Unit × mH)) (f0_ : Nat) : Nat → mH → Int32 → Option (Unit × mH) :=
  lp (fun _ _ => none) (B_L_init_25 Θ N K53 f0_)
noncomputable def P_L_init (Θ : mW) (N : Nat) (h : mH) (a0 : Nat) : Option (Unit × mH) :=
  (ala Θ h 4 (J 8) (fun n => aQ 5 n (fun _ => none)) (fun q1 h2 => (bo (wF Θ h2 2 a0 0 (.ref q1)) (fun h3 => (bo (wF Θ h3 2 a0 1 (.int (J 0))) (fun h4 => (bo (wF Θ h4 2 a0 2 (.int (J 0))) (fun h5 => (P_L_init_25 Θ N (fun h14 => (some ((), h14))) a0 N h5 (J 0))))))))))
theorem SB_L_init_25 (hfl : HF l Θ) (hD : 2 ≤ d) {K53 : mH → Option (Unit × mH)} {f0_ : Nat}  (hK53 : ∀ (h : mH), mY l Θ d M_L_init 53 [none, none] [] h (tR vU) (K53 h)) (rc : mH → Int32 → Option (Unit × mH)) (ih : ∀ (h : mH) (v1_ : Int32), mY l Θ d M_L_init 25 [some (.ref f0_), some (.int v1_)] [] h (tR vU) (rc h v1_)) : ∀ (h : mH) (v1_ : Int32), mY l Θ d M_L_init 25 [some (.ref f0_), some (.int v1_)] [] h (tR vU) (B_L_init_25 Θ N K53 f0_ rc h v1_) := by
  intro h v1_
  unfold B_L_init_25
  refine y_iload_n d_L_init_25 rfl ?_
  refine y_aload_n d_L_init_26 rfl ?_
  refine y_getA d_L_init_27 f_L_11 (fun v6 => ?_)
  refine y_alen d_L_init_30 (fun v7 => ?_)
  refine y_icmp_ge (tgt := 53) d_L_init_31 (by decide) ?_ ?_
  · exact y_wk (loc2 := [none, none]) trivial (hK53 h)
  · refine y_aload_n d_L_init_34 rfl ?_
    refine y_getA d_L_init_35 f_L_11 (fun v8 => ?_)
    refine y_iload_n d_L_init_38 rfl ?_
    refine y_new d_L_init_39 n_L_9 (fun q9 h10 _ _ => ?_)
    refine y_dup d_L_init_42 rfl ?_
    refine y_cU (c_in (rest := [.ref q9, .int v1_, .ref v8]) d_L_init_43 k_S_init s_L_22 rfl rfl (Nat.le_of_ble_eq_true rfl) (Nat.le_trans (Nat.le_of_ble_eq_true rfl : 1 + 1 ≤ 2) hD) (S_S_init hfl (Nat.le_refl _) h10 q9)) (fun v12 h11 => ?_)
    refine y_qast (Or.inl ⟨rfl, rfl⟩) d_L_init_46 (fun h13 => ?_)
    refine y_iinc (v := (v1_ + (J 1))) (loc2 := [some (.ref f0_), some (.int (v1_ + (J 1)))]) d_L_init_47 rfl rfl (Nat.le_of_ble_eq_true rfl) rfl rfl ?_
    refine y_goto (tgt := 25) d_L_init_50 (by decide) ?_
    exact ih h13 (v1_ + (J 1))
theorem S_L_init_25 (hfl : HF l Θ) (hD : 2 ≤ d) {K53 : mH → Option (Unit × mH)} {f0_ : Nat}  (hK53 : ∀ (h : mH), mY l Θ d M_L_init 53 [none, none] [] h (tR vU) (K53 h)) : ∀ (n : Nat) (h : mH) (v1_ : Int32), mY l Θ d M_L_init 25 [some (.ref f0_), some (.int v1_)] [] h (tR vU) (P_L_init_25 Θ N K53 f0_ n h v1_) :=
  fun n => lp_all (C := fun (rc : mH → Int32 → Option (Unit × mH)) => ∀ (h : mH) (v1_ : Int32), mY l Θ d M_L_init 25 [some (.ref f0_), some (.int v1_)] [] h (tR vU) (rc h v1_)) (fun _ _ => y_none) (fun rc ih => SB_L_init_25 hfl hD hK53 rc ih) n
theorem S_L_init (hfl : HF l Θ) (hD : 2 ≤ d) (h : mH) (a0 : Nat) : mMs l Θ d M_L_init [.ref a0] h (tR vU) (P_L_init Θ N h a0) := by
  refine mMs.of hfl (by decide +kernel) rfl (Nat.le_of_ble_eq_true rfl) (loc := [some (.ref a0), none]) rfl ?_
  unfold P_L_init
  refine y_aload_n d_L_init_0 rfl ?_
  refine y_objInit d_L_init_1 s_L_1 (mG (1, 42) (by decide +kernel)) (mG (1, 43) (by decide +kernel)) (Nat.le_of_ble_eq_true rfl) (Nat.le_trans (Nat.le_of_ble_eq_true rfl) hD) ?_
  refine y_aload_n d_L_init_4 rfl ?_
  refine y_bipush (v := (J 8)) d_L_init_5 (by decide +kernel) ?_
  refine y_anewarr d_L_init_7 (fun _ => rfl) y_L_9 (by simp [mAo]) (fun q1 h2 => ?_)
  refine y_putF d_L_init_10 rfl pf_L_11 rfl rfl (fun h3 => ?_)
  refine y_aload_n d_L_init_13 rfl ?_
  refine y_iconst (v := (J 0)) d_L_init_14 rfl ?_
  refine y_put d_L_init_15 p_L_15 rfl rfl (fun h4 => ?_)
  refine y_aload_n d_L_init_18 rfl ?_
  refine y_iconst (v := (J 0)) d_L_init_19 rfl ?_
  refine y_put d_L_init_20 p_L_19 rfl rfl (fun h5 => ?_)
  refine y_iconst (v := (J 0)) d_L_init_23 rfl ?_
  refine y_istore_n (loc2 := [some (.ref a0), some (.int (J 0))]) d_L_init_24 (Nat.le_of_ble_eq_true rfl) rfl rfl ?_
  refine S_L_init_25 hfl hD (fun h14 => ?_) N h5 (J 0)
  exact y_retU d_L_init_53 rfl
noncomputable def B_L_copyFrom_2 (Θ : mW) (N : Nat) (K31 : mH → Option (Unit × mH)) (f0_ : Nat) (f1_ : Nat) (rc : mH → Int32 → Option (Unit × mH)) (h : mH) (v2_ : Int32) : Option (Unit × mH) :=
  (bo (rI Θ h 2 f1_ 1) (fun v1 => (if v1 ≤ v2_ then (K31 h) else (bo (rA Θ h 2 f0_ 0) (fun v2 => (bo (aRQ Θ h 5 v2 v2_) (fun v3 => (bo (rA Θ h 2 f1_ 0) (fun v4 => (bo (aRQ Θ h 5 v4 v2_) (fun v5 => (gO Θ h 3 v3 (bc (P_S_copyFrom Θ N h v3 v5) (fun v7 h6 => (rc h6 (v2_ + (J 1)))))))))))))))))
noncomputable def P_L_copyFrom_2 (Θ : mW) (N : Nat) (K31 : mH → Option (Unit × mH)) (f0_ : Nat) (f1_ : Nat) : Nat → mH → Int32 → Option (Unit × mH) :=
  lp (fun _ _ => none) (B_L_copyFrom_2 Θ N K31 f0_ f1_)
noncomputable def P_L_copyFrom (Θ : mW) (N : Nat) (h : mH) (a0 : Nat) (a1 : Nat) : Option (Unit × mH) :=
  (P_L_copyFrom_2 Θ N (fun h8 => (bo (rI Θ h8 2 a1 1) (fun v9 => (bo (wF Θ h8 2 a0 1 (.int v9)) (fun h10 => (bo (rI Θ h10 2 a1 2) (fun v11 => (bo (wF Θ h10 2 a0 2 (.int v11)) (fun h12 => (some ((), h12))))))))))) a0 a1 N h (J 0))
theorem SB_L_copyFrom_2 (hfl : HF l Θ) (hD : 3 ≤ d) {K31 : mH → Option (Unit × mH)} {f0_ : Nat} {f1_ : Nat}  (hK31 : ∀ (h : mH), mY l Θ d M_L_copyFrom 31 [some (.ref f0_), some (.ref f1_), none] [] h (tR vU) (K31 h)) (rc : mH → Int32 → Option (Unit × mH)) (ih : ∀ (h : mH) (v2_ : Int32), mY l Θ d M_L_copyFrom 2 [some (.ref f0_), some (.ref f1_), some (.int v2_)] [] h (tR vU) (rc h v2_)) : ∀ (h : mH) (v2_ : Int32), mY l Θ d M_L_copyFrom 2 [some (.ref f0_), some (.ref f1_), some (.int v2_)] [] h (tR vU) (B_L_copyFrom_2 Θ N K31 f0_ f1_ rc h v2_) := by
  intro h v2_
  unfold B_L_copyFrom_2
  refine y_iload_n d_L_copyFrom_2 rfl ?_
  refine y_aload_n d_L_copyFrom_3 rfl ?_
  refine y_getI d_L_copyFrom_4 f_L_15 (fun v1 => ?_)
  refine y_icmp_ge (tgt := 31) d_L_copyFrom_7 (by decide) ?_ ?_
  · exact y_wk (loc2 := [some (.ref f0_), some (.ref f1_), none]) ⟨rfl, ⟨rfl, trivial⟩⟩ (hK31 h)
  · refine y_aload_n d_L_copyFrom_10 rfl ?_
    refine y_getA d_L_copyFrom_11 f_L_11 (fun v2 => ?_)
    refine y_iload_n d_L_copyFrom_14 rfl ?_
    refine y_qald (Or.inl rfl) d_L_copyFrom_15 (fun v3 => ?_)
    refine y_aload_n d_L_copyFrom_16 rfl ?_
    refine y_getA d_L_copyFrom_17 f_L_11 (fun v4 => ?_)
    refine y_iload_n d_L_copyFrom_20 rfl ?_
    refine y_qald (Or.inl rfl) d_L_copyFrom_21 (fun v5 => ?_)
    refine y_gO (fun fs1 g1 => y_cU (c_vi (rest := []) d_L_copyFrom_22 k_S_copyFrom s_L_23 (Or.inl ⟨_, _, _, g1, rfl, rfl⟩) rfl rfl (Nat.le_of_ble_eq_true rfl) (Nat.le_trans (Nat.le_of_ble_eq_true rfl : 2 + 1 ≤ 3) hD) (S_S_copyFrom hfl (Nat.le_refl _) h v3 v5)) (fun v7 h6 => ?_))
    refine y_iinc (v := (v2_ + (J 1))) (loc2 := [some (.ref f0_), some (.ref f1_), some (.int (v2_ + (J 1)))]) d_L_copyFrom_25 rfl rfl (Nat.le_of_ble_eq_true rfl) rfl rfl ?_
    refine y_goto (tgt := 2) d_L_copyFrom_28 (by decide) ?_
    exact ih h6 (v2_ + (J 1))
theorem S_L_copyFrom_2 (hfl : HF l Θ) (hD : 3 ≤ d) {K31 : mH → Option (Unit × mH)} {f0_ : Nat} {f1_ : Nat}  (hK31 : ∀ (h : mH), mY l Θ d M_L_copyFrom 31 [some (.ref f0_), some (.ref f1_), none] [] h (tR vU) (K31 h)) : ∀ (n : Nat) (h : mH) (v2_ : Int32), mY l Θ d M_L_copyFrom 2 [some (.ref f0_), some (.ref f1_), some (.int v2_)] [] h (tR vU) (P_L_copyFrom_2 Θ N K31 f0_ f1_ n h v2_) :=
  fun n => lp_all (C := fun (rc : mH → Int32 → Option (Unit × mH)) => ∀ (h : mH) (v2_ : Int32), mY l Θ d M_L_copyFrom 2 [some (.ref f0_), some (.ref f1_), some (.int v2_)] [] h (tR vU) (rc h v2_)) (fun _ _ => y_none) (fun rc ih => SB_L_copyFrom_2 hfl hD hK31 rc ih) n
theorem S_L_copyFrom (hfl : HF l Θ) (hD : 3 ≤ d) (h : mH) (a0 : Nat) (a1 : Nat) : mMs l Θ d M_L_copyFrom [.ref a0, .ref a1] h (tR vU) (P_L_copyFrom Θ N h a0 a1) := by
  refine mMs.of hfl (by decide +kernel) rfl (Nat.le_of_ble_eq_true rfl) (loc := [some (.ref a0), some (.ref a1), none]) rfl ?_
  unfold P_L_copyFrom
  refine y_iconst (v := (J 0)) d_L_copyFrom_0 rfl ?_
  refine y_istore_n (loc2 := [some (.ref a0), some (.ref a1), some (.int (J 0))]) d_L_copyFrom_1 (Nat.le_of_ble_eq_true rfl) rfl rfl ?_
  refine S_L_copyFrom_2 hfl hD (fun h8 => ?_) N h (J 0)
  refine y_aload_n d_L_copyFrom_31 rfl ?_
  refine y_aload_n d_L_copyFrom_32 rfl ?_
  refine y_getI d_L_copyFrom_33 f_L_15 (fun v9 => ?_)
  refine y_put d_L_copyFrom_36 p_L_15 rfl rfl (fun h10 => ?_)
  refine y_aload_n d_L_copyFrom_39 rfl ?_
  refine y_aload_n d_L_copyFrom_40 rfl ?_
  refine y_getI d_L_copyFrom_41 f_L_19 (fun v11 => ?_)
  refine y_put d_L_copyFrom_44 p_L_19 rfl rfl (fun h12 => ?_)
  exact y_retU d_L_copyFrom_47 rfl
noncomputable def P_L_register (Θ : mW) (N : Nat) (h : mH) (a0 : Nat) (a1 : Int32) (a2 : Int32) (a3 : Int32) : Option ((Int32 ⊕ Nat) × mH) :=
  (if a1 < (J 5) then (xp 11 (h ++ [oB 11 []])) else (if (J 30) < a1 then (xp 11 (h ++ [oB 11 []])) else (if a2 < (J 5) then (xp 11 (h ++ [oB 11 []])) else (if (J 80) < a2 then (xp 11 (h ++ [oB 11 []])) else (if a3 < 0 then (xp 11 (h ++ [oB 11 []])) else (if a3 ≤ (J 99) then (bo (rI Θ h 2 a0 1) (fun v1 => (if v1 < (J 8) then (bo (rI Θ h 2 a0 2) (fun v2 => (bo (rA Θ h 2 a0 0) (fun v3 => (bo (rI Θ h 2 a0 1) (fun v4 => (bo (aRQ Θ h 5 v3 v4) (fun v5 => (gO Θ h 3 v5 (bc (P_S_begin Θ N h v5 v2 a1 a2 a3) (fun v7 h6 => (bo (rI Θ h6 2 a0 1) (fun v8 => (bo (wF Θ h6 2 a0 1 (.int (v8 + (J 1)))) (fun h9 => (bo (rI Θ h9 2 a0 2) (fun v10 => (bo (wF Θ h9 2 a0 2 (.int (v10 + (J 1)))) (fun h11 => (some (.inl v2, h11))))))))))))))))))))) else (xp 12 (h ++ [oB 12 []]))))) else (xp 11 (h ++ [oB 11 []]))))))))
theorem S_L_register (hfl : HF l Θ) (hD : 6 ≤ d) (h : mH) (a0 : Nat) (a1 : Int32) (a2 : Int32) (a3 : Int32) : mMs l Θ d M_L_register [.ref a0, .int a1, .int a2, .int a3] h (tX vI) (P_L_register Θ N h a0 a1 a2 a3) := by
  refine mMs.of hfl (by decide +kernel) rfl (Nat.le_of_ble_eq_true rfl) (loc := [some (.ref a0), some (.int a1), some (.int a2), some (.int a3), none]) rfl ?_
  unfold P_L_register
  refine y_iload_n d_L_register_0 rfl ?_
  refine y_iconst (v := (J 5)) d_L_register_1 rfl ?_
  refine y_icmp_lt (tgt := 32) d_L_register_2 (by decide) ?_ ?_
  · exact y_throw rfl d_L_register_32 d_L_register_35 d_L_register_36 d_L_register_38 d_L_register_41 mExc_11 y_L_50 x_L_54 (List.mem_of_getElem? (i := 0) rfl) (Nat.le_of_ble_eq_true rfl) (Nat.le_trans (Nat.le_of_ble_eq_true rfl) hD)
  · refine y_iload_n d_L_register_5 rfl ?_
    refine y_bipush (v := (J 30)) d_L_register_6 (by decide +kernel) ?_
    refine y_icmp_gt (tgt := 32) d_L_register_8 (by decide) ?_ ?_
    · exact y_throw rfl d_L_register_32 d_L_register_35 d_L_register_36 d_L_register_38 d_L_register_41 mExc_11 y_L_50 x_L_54 (List.mem_of_getElem? (i := 0) rfl) (Nat.le_of_ble_eq_true rfl) (Nat.le_trans (Nat.le_of_ble_eq_true rfl) hD)
    · refine y_iload_n d_L_register_11 rfl ?_
      refine y_iconst (v := (J 5)) d_L_register_12 rfl ?_
      refine y_icmp_lt (tgt := 32) d_L_register_13 (by decide) ?_ ?_
      · exact y_throw rfl d_L_register_32 d_L_register_35 d_L_register_36 d_L_register_38 d_L_register_41 mExc_11 y_L_50 x_L_54 (List.mem_of_getElem? (i := 0) rfl) (Nat.le_of_ble_eq_true rfl) (Nat.le_trans (Nat.le_of_ble_eq_true rfl) hD)
      · refine y_iload_n d_L_register_16 rfl ?_
        refine y_bipush (v := (J 80)) d_L_register_17 (by decide +kernel) ?_
        refine y_icmp_gt (tgt := 32) d_L_register_19 (by decide) ?_ ?_
        · exact y_throw rfl d_L_register_32 d_L_register_35 d_L_register_36 d_L_register_38 d_L_register_41 mExc_11 y_L_50 x_L_54 (List.mem_of_getElem? (i := 0) rfl) (Nat.le_of_ble_eq_true rfl) (Nat.le_trans (Nat.le_of_ble_eq_true rfl) hD)
        · refine y_iload_n d_L_register_22 rfl ?_
          refine y_if_lt (tgt := 32) d_L_register_23 (by decide) ?_ ?_
          · exact y_throw rfl d_L_register_32 d_L_register_35 d_L_register_36 d_L_register_38 d_L_register_41 mExc_11 y_L_50 x_L_54 (List.mem_of_getElem? (i := 0) rfl) (Nat.le_of_ble_eq_true rfl) (Nat.le_trans (Nat.le_of_ble_eq_true rfl) hD)
          · refine y_iload_n d_L_register_26 rfl ?_
            refine y_bipush (v := (J 99)) d_L_register_27 (by decide +kernel) ?_
            refine y_icmp_le (tgt := 42) d_L_register_29 (by decide) ?_ ?_
            · refine y_aload_n d_L_register_42 rfl ?_
              refine y_getI d_L_register_43 f_L_15 (fun v1 => ?_)
              refine y_bipush (v := (J 8)) d_L_register_46 (by decide +kernel) ?_
              refine y_icmp_lt (tgt := 61) d_L_register_48 (by decide) ?_ ?_
              · refine y_aload_n d_L_register_61 rfl ?_
                refine y_getI d_L_register_62 f_L_19 (fun v2 => ?_)
                refine y_istore (loc2 := [some (.ref a0), some (.int a1), some (.int a2), some (.int a3), some (.int v2)]) d_L_register_65 (Nat.le_of_ble_eq_true rfl) rfl rfl ?_
                refine y_aload_n d_L_register_67 rfl ?_
                refine y_getA d_L_register_68 f_L_11 (fun v3 => ?_)
                refine y_aload_n d_L_register_71 rfl ?_
                refine y_getI d_L_register_72 f_L_15 (fun v4 => ?_)
                refine y_qald (Or.inl rfl) d_L_register_75 (fun v5 => ?_)
                refine y_iload d_L_register_76 rfl ?_
                refine y_iload_n d_L_register_78 rfl ?_
                refine y_iload_n d_L_register_79 rfl ?_
                refine y_iload_n d_L_register_80 rfl ?_
                refine y_gO (fun fs1 g1 => y_cU (c_vi (rest := []) d_L_register_81 k_S_begin s_L_57 (Or.inl ⟨_, _, _, g1, rfl, rfl⟩) rfl rfl (Nat.le_of_ble_eq_true rfl) (Nat.le_trans (Nat.le_of_ble_eq_true rfl : 1 + 1 ≤ 6) hD) (S_S_begin hfl (Nat.le_refl _) h v5 v2 a1 a2 a3)) (fun v7 h6 => ?_))
                refine y_aload_n d_L_register_84 rfl ?_
                refine y_dup d_L_register_85 rfl ?_
                refine y_getI d_L_register_86 f_L_15 (fun v8 => ?_)
                refine y_iconst (v := (J 1)) d_L_register_89 rfl ?_
                refine y_iadd (v := (v8 + (J 1))) d_L_register_90 rfl ?_
                refine y_put d_L_register_91 p_L_15 rfl rfl (fun h9 => ?_)
                refine y_aload_n d_L_register_94 rfl ?_
                refine y_dup d_L_register_95 rfl ?_
                refine y_getI d_L_register_96 f_L_19 (fun v10 => ?_)
                refine y_iconst (v := (J 1)) d_L_register_99 rfl ?_
                refine y_iadd (v := (v10 + (J 1))) d_L_register_100 rfl ?_
                refine y_put d_L_register_101 p_L_19 rfl rfl (fun h11 => ?_)
                refine y_iload d_L_register_104 rfl ?_
                exact y_retIX d_L_register_106 rfl rfl
              · exact y_throw rfl d_L_register_51 d_L_register_54 d_L_register_55 d_L_register_57 d_L_register_60 mExc_12 y_L_45 x_L_49 (List.mem_of_getElem? (i := 1) rfl) (Nat.le_of_ble_eq_true rfl) (Nat.le_trans (Nat.le_of_ble_eq_true rfl) hD)
            · exact y_throw rfl d_L_register_32 d_L_register_35 d_L_register_36 d_L_register_38 d_L_register_41 mExc_11 y_L_50 x_L_54 (List.mem_of_getElem? (i := 0) rfl) (Nat.le_of_ble_eq_true rfl) (Nat.le_trans (Nat.le_of_ble_eq_true rfl) hD)
noncomputable def B_L_known_2 (Θ : mW) (N : Nat) (K36 : mH → Option ((Nat ⊕ Nat) × mH)) (f0_ : Nat) (f1_ : Int32) (rc : mH → Int32 → Option ((Nat ⊕ Nat) × mH)) (h : mH) (v2_ : Int32) : Option ((Nat ⊕ Nat) × mH) :=
  (bo (rI Θ h 2 f0_ 1) (fun v1 => (if v1 ≤ v2_ then (K36 h) else (bo (rA Θ h 2 f0_ 0) (fun v2 => (bo (aRQ Θ h 5 v2 v2_) (fun v3 => (bo (rI Θ h 3 v3 0) (fun v4 => (if v4 = f1_ then (bo (rA Θ h 2 f0_ 0) (fun v5 => (bo (aRQ Θ h 5 v5 v2_) (fun v6 => (some (.inl v6, h)))))) else (rc h (v2_ + (J 1)))))))))))))
noncomputable def P_L_known_2 (Θ : mW) (N : Nat) (K36 : mH → Option ((Nat ⊕ Nat) × mH)) (f0_ : Nat) (f1_ : Int32) : Nat → mH → Int32 → Option ((Nat ⊕ Nat) × mH) :=
  lp (fun _ _ => none) (B_L_known_2 Θ N K36 f0_ f1_)
noncomputable def P_L_known (Θ : mW) (N : Nat) (h : mH) (a0 : Nat) (a1 : Int32) : Option ((Nat ⊕ Nat) × mH) :=
  (P_L_known_2 Θ N (fun h7 => (xp 10 (h7 ++ [oB 10 []]))) a0 a1 N h (J 0))
theorem SB_L_known_2 (hfl : HF l Θ) (hD : 6 ≤ d) {K36 : mH → Option ((Nat ⊕ Nat) × mH)} {f0_ : Nat} {f1_ : Int32}  (hK36 : ∀ (h : mH), mY l Θ d M_L_known 36 [none, none, none] [] h (tX vA) (K36 h)) (rc : mH → Int32 → Option ((Nat ⊕ Nat) × mH)) (ih : ∀ (h : mH) (v2_ : Int32), mY l Θ d M_L_known 2 [some (.ref f0_), some (.int f1_), some (.int v2_)] [] h (tX vA) (rc h v2_)) : ∀ (h : mH) (v2_ : Int32), mY l Θ d M_L_known 2 [some (.ref f0_), some (.int f1_), some (.int v2_)] [] h (tX vA) (B_L_known_2 Θ N K36 f0_ f1_ rc h v2_) := by
  intro h v2_
  unfold B_L_known_2
  refine y_iload_n d_L_known_2 rfl ?_
  refine y_aload_n d_L_known_3 rfl ?_
  refine y_getI d_L_known_4 f_L_15 (fun v1 => ?_)
  refine y_icmp_ge (tgt := 36) d_L_known_7 (by decide) ?_ ?_
  · exact y_wk (loc2 := [none, none, none]) trivial (hK36 h)
  · refine y_aload_n d_L_known_10 rfl ?_
    refine y_getA d_L_known_11 f_L_11 (fun v2 => ?_)
    refine y_iload_n d_L_known_14 rfl ?_
    refine y_qald (Or.inl rfl) d_L_known_15 (fun v3 => ?_)
    refine y_getI d_L_known_16 f_L_27 (fun v4 => ?_)
    refine y_iload_n d_L_known_19 rfl ?_
    refine y_icmp_ne (tgt := 30) d_L_known_20 (by decide) ?_ ?_
    · refine y_iinc (v := (v2_ + (J 1))) (loc2 := [some (.ref f0_), some (.int f1_), some (.int (v2_ + (J 1)))]) d_L_known_30 rfl rfl (Nat.le_of_ble_eq_true rfl) rfl rfl ?_
      refine y_goto (tgt := 2) d_L_known_33 (by decide) ?_
      exact ih h (v2_ + (J 1))
    · refine y_aload_n d_L_known_23 rfl ?_
      refine y_getA d_L_known_24 f_L_11 (fun v5 => ?_)
      refine y_iload_n d_L_known_27 rfl ?_
      refine y_qald (Or.inl rfl) d_L_known_28 (fun v6 => ?_)
      exact y_retAX d_L_known_29 rfl (Or.inl ⟨_, rfl⟩)
theorem S_L_known_2 (hfl : HF l Θ) (hD : 6 ≤ d) {K36 : mH → Option ((Nat ⊕ Nat) × mH)} {f0_ : Nat} {f1_ : Int32}  (hK36 : ∀ (h : mH), mY l Θ d M_L_known 36 [none, none, none] [] h (tX vA) (K36 h)) : ∀ (n : Nat) (h : mH) (v2_ : Int32), mY l Θ d M_L_known 2 [some (.ref f0_), some (.int f1_), some (.int v2_)] [] h (tX vA) (P_L_known_2 Θ N K36 f0_ f1_ n h v2_) :=
  fun n => lp_all (C := fun (rc : mH → Int32 → Option ((Nat ⊕ Nat) × mH)) => ∀ (h : mH) (v2_ : Int32), mY l Θ d M_L_known 2 [some (.ref f0_), some (.int f1_), some (.int v2_)] [] h (tX vA) (rc h v2_)) (fun _ _ => y_none) (fun rc ih => SB_L_known_2 hfl hD hK36 rc ih) n
theorem S_L_known (hfl : HF l Θ) (hD : 6 ≤ d) (h : mH) (a0 : Nat) (a1 : Int32) : mMs l Θ d M_L_known [.ref a0, .int a1] h (tX vA) (P_L_known Θ N h a0 a1) := by
  refine mMs.of hfl (by decide +kernel) rfl (Nat.le_of_ble_eq_true rfl) (loc := [some (.ref a0), some (.int a1), none]) rfl ?_
  unfold P_L_known
  refine y_iconst (v := (J 0)) d_L_known_0 rfl ?_
  refine y_istore_n (loc2 := [some (.ref a0), some (.int a1), some (.int (J 0))]) d_L_known_1 (Nat.le_of_ble_eq_true rfl) rfl rfl ?_
  refine S_L_known_2 hfl hD (fun h7 => ?_) N h (J 0)
  exact y_throw rfl d_L_known_36 d_L_known_39 d_L_known_40 d_L_known_42 d_L_known_45 mExc_10 y_L_30 x_L_34 (List.mem_of_getElem? (i := 2) rfl) (Nat.le_of_ble_eq_true rfl) (Nat.le_trans (Nat.le_of_ble_eq_true rfl) hD)
noncomputable def B_L_moveToEnd_2 (Θ : mW) (N : Nat) (K51 : mH → Option (Unit × mH)) (f0_ : Nat) (f1_ : Nat) (rc : mH → Int32 → Option (Unit × mH)) (h : mH) (v2_ : Int32) : Option (Unit × mH) :=
  (bo (rI Θ h 2 f0_ 1) (fun v1 => (if v1 ≤ (v2_ + (J 1)) then (K51 h) else (bo (rA Θ h 2 f0_ 0) (fun v2 => (bo (aRQ Θ h 5 v2 v2_) (fun v3 => (jn (fun (h5 : mH) => (rc h5 (v2_ + (J 1)))) (fun j4 => (if v3 = f1_ then (bo (rA Θ h 2 f0_ 0) (fun v6 => (bo (rA Θ h 2 f0_ 0) (fun v7 => (bo (aRQ Θ h 5 v7 (v2_ + (J 1))) (fun v8 => (bo (aWQ Θ h 5 3 v6 v2_ v8) (fun h9 => (bo (rA Θ h9 2 f0_ 0) (fun v10 => (bo (aWQ Θ h9 5 3 v10 (v2_ + (J 1)) f1_) (fun h11 => (j4 h11))))))))))))) else (j4 h)))))))))))
noncomputable def P_L_moveToEnd_2 (Θ : mW) (N : Nat) (K51 : mH → Option (Unit × mH)) (f0_ : Nat) (f1_ : Nat) : Nat → mH → Int32 → Option (Unit × mH) :=
  lp (fun _ _ => none) (B_L_moveToEnd_2 Θ N K51 f0_ f1_)
noncomputable def P_L_moveToEnd (Θ : mW) (N : Nat) (h : mH) (a0 : Nat) (a1 : Nat) : Option (Unit × mH) :=
  (P_L_moveToEnd_2 Θ N (fun h12 => (some ((), h12))) a0 a1 N h (J 0))
theorem SB_L_moveToEnd_2 (hfl : HF l Θ) (hD : 1 ≤ d) {K51 : mH → Option (Unit × mH)} {f0_ : Nat} {f1_ : Nat}  (hK51 : ∀ (h : mH), mY l Θ d M_L_moveToEnd 51 [none, none, none] [] h (tR vU) (K51 h)) (rc : mH → Int32 → Option (Unit × mH)) (ih : ∀ (h : mH) (v2_ : Int32), mY l Θ d M_L_moveToEnd 2 [some (.ref f0_), some (.ref f1_), some (.int v2_)] [] h (tR vU) (rc h v2_)) : ∀ (h : mH) (v2_ : Int32), mY l Θ d M_L_moveToEnd 2 [some (.ref f0_), some (.ref f1_), some (.int v2_)] [] h (tR vU) (B_L_moveToEnd_2 Θ N K51 f0_ f1_ rc h v2_) := by
  intro h v2_
  unfold B_L_moveToEnd_2
  refine y_iload_n d_L_moveToEnd_2 rfl ?_
  refine y_iconst (v := (J 1)) d_L_moveToEnd_3 rfl ?_
  refine y_iadd (v := (v2_ + (J 1))) d_L_moveToEnd_4 rfl ?_
  refine y_aload_n d_L_moveToEnd_5 rfl ?_
  refine y_getI d_L_moveToEnd_6 f_L_15 (fun v1 => ?_)
  refine y_icmp_ge (tgt := 51) d_L_moveToEnd_9 (by decide) ?_ ?_
  · exact y_wk (loc2 := [none, none, none]) trivial (hK51 h)
  · refine y_aload_n d_L_moveToEnd_12 rfl ?_
    refine y_getA d_L_moveToEnd_13 f_L_11 (fun v2 => ?_)
    refine y_iload_n d_L_moveToEnd_16 rfl ?_
    refine y_qald (Or.inl rfl) d_L_moveToEnd_17 (fun v3 => ?_)
    refine y_aload_n d_L_moveToEnd_18 rfl ?_
    refine y_jn (C := fun (j9 : mH → Option (Unit × mH)) => ∀ (h5 : mH), mY l Θ d M_L_moveToEnd 45 [some (.ref f0_), some (.ref f1_), some (.int v2_)] [] h5 (tR vU) (j9 h5)) (fun h5 => ?_) (fun j4 Hj4 => ?_)
    · refine y_iinc (v := (v2_ + (J 1))) (loc2 := [some (.ref f0_), some (.ref f1_), some (.int (v2_ + (J 1)))]) d_L_moveToEnd_45 rfl rfl (Nat.le_of_ble_eq_true rfl) rfl rfl ?_
      refine y_goto (tgt := 2) d_L_moveToEnd_48 (by decide) ?_
      exact ih h5 (v2_ + (J 1))
    · refine y_acmp_ne (tgt := 45) d_L_moveToEnd_19 (by decide) ?_ ?_
      · exact Hj4 h
      · refine y_aload_n d_L_moveToEnd_22 rfl ?_
        refine y_getA d_L_moveToEnd_23 f_L_11 (fun v6 => ?_)
        refine y_iload_n d_L_moveToEnd_26 rfl ?_
        refine y_aload_n d_L_moveToEnd_27 rfl ?_
        refine y_getA d_L_moveToEnd_28 f_L_11 (fun v7 => ?_)
        refine y_iload_n d_L_moveToEnd_31 rfl ?_
        refine y_iconst (v := (J 1)) d_L_moveToEnd_32 rfl ?_
        refine y_iadd (v := (v2_ + (J 1))) d_L_moveToEnd_33 rfl ?_
        refine y_qald (Or.inl rfl) d_L_moveToEnd_34 (fun v8 => ?_)
        refine y_qast (Or.inl ⟨rfl, rfl⟩) d_L_moveToEnd_35 (fun h9 => ?_)
        refine y_aload_n d_L_moveToEnd_36 rfl ?_
        refine y_getA d_L_moveToEnd_37 f_L_11 (fun v10 => ?_)
        refine y_iload_n d_L_moveToEnd_40 rfl ?_
        refine y_iconst (v := (J 1)) d_L_moveToEnd_41 rfl ?_
        refine y_iadd (v := (v2_ + (J 1))) d_L_moveToEnd_42 rfl ?_
        refine y_aload_n d_L_moveToEnd_43 rfl ?_
        refine y_qast (Or.inl ⟨rfl, rfl⟩) d_L_moveToEnd_44 (fun h11 => ?_)
        exact Hj4 h11
theorem S_L_moveToEnd_2 (hfl : HF l Θ) (hD : 1 ≤ d) {K51 : mH → Option (Unit × mH)} {f0_ : Nat} {f1_ : Nat}  (hK51 : ∀ (h : mH), mY l Θ d M_L_moveToEnd 51 [none, none, none] [] h (tR vU) (K51 h)) : ∀ (n : Nat) (h : mH) (v2_ : Int32), mY l Θ d M_L_moveToEnd 2 [some (.ref f0_), some (.ref f1_), some (.int v2_)] [] h (tR vU) (P_L_moveToEnd_2 Θ N K51 f0_ f1_ n h v2_) :=
  fun n => lp_all (C := fun (rc : mH → Int32 → Option (Unit × mH)) => ∀ (h : mH) (v2_ : Int32), mY l Θ d M_L_moveToEnd 2 [some (.ref f0_), some (.ref f1_), some (.int v2_)] [] h (tR vU) (rc h v2_)) (fun _ _ => y_none) (fun rc ih => SB_L_moveToEnd_2 hfl hD hK51 rc ih) n
theorem S_L_moveToEnd (hfl : HF l Θ) (hD : 1 ≤ d) (h : mH) (a0 : Nat) (a1 : Nat) : mMs l Θ d M_L_moveToEnd [.ref a0, .ref a1] h (tR vU) (P_L_moveToEnd Θ N h a0 a1) := by
  refine mMs.of hfl (by decide +kernel) rfl (Nat.le_of_ble_eq_true rfl) (loc := [some (.ref a0), some (.ref a1), none]) rfl ?_
  unfold P_L_moveToEnd
  refine y_iconst (v := (J 0)) d_L_moveToEnd_0 rfl ?_
  refine y_istore_n (loc2 := [some (.ref a0), some (.ref a1), some (.int (J 0))]) d_L_moveToEnd_1 (Nat.le_of_ble_eq_true rfl) rfl rfl ?_
  refine S_L_moveToEnd_2 hfl hD (fun h12 => ?_) N h (J 0)
  exact y_retU d_L_moveToEnd_51 rfl
noncomputable def P_L_strike (Θ : mW) (N : Nat) (h : mH) (a0 : Nat) (a1 : Int32) : Option ((Int32 ⊕ Nat) × mH) :=
  (gO Θ h 2 a0 (bx (P_L_known Θ N h a0 a1) (fun v2 h1 => (gO Θ h1 3 v2 (bc (P_S_isDocked Θ N h1 v2) (fun v4 h3 => (if v4 = 0 then (bo (rI Θ h3 3 v2 6) (fun v5 => (if v5 = 0 then (gO Θ h3 2 a0 (bc (P_L_moveToEnd Θ N h3 a0 v2) (fun v7 h6 => (bo (rI Θ h6 2 a0 1) (fun v8 => (bo (wF Θ h6 2 a0 1 (.int (v8 - (J 1)))) (fun h9 => (bo (rI Θ h9 3 v2 3) (fun v10 => (some (.inl v10, h9))))))))))) else (xp 12 (h3 ++ [oB 12 []]))))) else (xp 12 (h3 ++ [oB 12 []]))))))) (fun n9 h9 => xp n9 h9)))
theorem S_L_strike (hfl : HF l Θ) (hD : 7 ≤ d) (h : mH) (a0 : Nat) (a1 : Int32) : mMs l Θ d M_L_strike [.ref a0, .int a1] h (tX vI) (P_L_strike Θ N h a0 a1) := by
  refine mMs.of hfl (by decide +kernel) rfl (Nat.le_of_ble_eq_true rfl) (loc := [some (.ref a0), some (.int a1), none]) rfl ?_
  unfold P_L_strike
  refine y_aload_n d_L_strike_0 rfl ?_
  refine y_iload_n d_L_strike_1 rfl ?_
  refine y_gO (fun fs1 g1 => y_xA (c_vi (rest := []) d_L_strike_2 k_L_known s_L_37 (Or.inl ⟨_, _, _, g1, rfl, rfl⟩) rfl rfl (Nat.le_of_ble_eq_true rfl) (Nat.le_trans (Nat.le_of_ble_eq_true rfl : 6 + 1 ≤ 7) hD) (S_L_known hfl (Nat.le_refl _) h a0 a1)) (fun v2 h1 => ?_) (fun _ _ => y_hp rfl))
  refine y_astore_n (loc2 := [some (.ref a0), some (.int a1), some (.ref v2)]) d_L_strike_5 (Nat.le_of_ble_eq_true rfl) rfl rfl ?_
  refine y_aload_n d_L_strike_6 rfl ?_
  refine y_gO (fun fs1 g1 => y_cI (c_vi (rest := []) d_L_strike_7 k_S_isDocked s_L_41 (Or.inl ⟨_, _, _, g1, rfl, rfl⟩) rfl rfl (Nat.le_of_ble_eq_true rfl) (Nat.le_trans (Nat.le_of_ble_eq_true rfl : 1 + 1 ≤ 7) hD) (S_S_isDocked hfl (Nat.le_refl _) h1 v2)) (fun v4 h3 => ?_))
  refine y_if_ne (tgt := 20) d_L_strike_10 (by decide) ?_ ?_
  · exact y_throw rfl d_L_strike_20 d_L_strike_23 d_L_strike_24 d_L_strike_26 d_L_strike_29 mExc_12 y_L_45 x_L_49 (List.mem_of_getElem? (i := 3) rfl) (Nat.le_of_ble_eq_true rfl) (Nat.le_trans (Nat.le_of_ble_eq_true rfl) hD)
  · refine y_aload_n d_L_strike_13 rfl ?_
    refine y_getI d_L_strike_14 f_L_61 (fun v5 => ?_)
    refine y_if_eq (tgt := 30) d_L_strike_17 (by decide) ?_ ?_
    · refine y_aload_n d_L_strike_30 rfl ?_
      refine y_aload_n d_L_strike_31 rfl ?_
      refine y_gO (fun fs1 g1 => y_cU (c_vi (rest := []) d_L_strike_32 k_L_moveToEnd s_L_66 (Or.inl ⟨_, _, _, g1, rfl, rfl⟩) rfl rfl (Nat.le_of_ble_eq_true rfl) (Nat.le_trans (Nat.le_of_ble_eq_true rfl : 1 + 1 ≤ 7) hD) (S_L_moveToEnd hfl (Nat.le_refl _) h3 a0 v2)) (fun v7 h6 => ?_))
      refine y_aload_n d_L_strike_35 rfl ?_
      refine y_dup d_L_strike_36 rfl ?_
      refine y_getI d_L_strike_37 f_L_15 (fun v8 => ?_)
      refine y_iconst (v := (J 1)) d_L_strike_40 rfl ?_
      refine y_isub (v := (v8 - (J 1))) d_L_strike_41 rfl ?_
      refine y_put d_L_strike_42 p_L_15 rfl rfl (fun h9 => ?_)
      refine y_aload_n d_L_strike_45 rfl ?_
      refine y_getI d_L_strike_46 f_L_69 (fun v10 => ?_)
      exact y_retIX d_L_strike_49 rfl rfl
    · exact y_throw rfl d_L_strike_20 d_L_strike_23 d_L_strike_24 d_L_strike_26 d_L_strike_29 mExc_12 y_L_45 x_L_49 (List.mem_of_getElem? (i := 3) rfl) (Nat.le_of_ble_eq_true rfl) (Nat.le_trans (Nat.le_of_ble_eq_true rfl) hD)
noncomputable def B_L_overlapping_2 (Θ : mW) (N : Nat) (K37 : mH → Option (Option Nat × mH)) (f0_ : Nat) (f1_ : Int32) (f2_ : Int32) (rc : mH → Int32 → Option (Option Nat × mH)) (h : mH) (v3_ : Int32) : Option (Option Nat × mH) :=
  (bo (rI Θ h 2 f0_ 1) (fun v1 => (if v1 ≤ v3_ then (K37 h) else (bo (rA Θ h 2 f0_ 0) (fun v2 => (bo (aRQ Θ h 5 v2 v3_) (fun v3 => (gO Θ h 3 v3 (bc (P_S_overlaps Θ N h v3 f1_ f2_) (fun v5 h4 => (if v5 = 0 then (rc h4 (v3_ + (J 1))) else (bo (rA Θ h4 2 f0_ 0) (fun v6 => (bo (aRQ Θ h4 5 v6 v3_) (fun v7 => (some (some v7, h4)))))))))))))))))
noncomputable def P_L_overlapping_2 (Θ : mW) (N : Nat) (K37 : mH → Option (Option Nat × mH)) (f0_ : Nat) (f1_ : Int32) (f2_ : Int32) : Nat → mH → Int32 → Option (Option Nat × mH) :=
  lp (fun _ _ => none) (B_L_overlapping_2 Θ N K37 f0_ f1_ f2_)
noncomputable def P_L_overlapping (Θ : mW) (N : Nat) (h : mH) (a0 : Nat) (a1 : Int32) (a2 : Int32) : Option (Option Nat × mH) :=
  (P_L_overlapping_2 Θ N (fun h8 => (some (none, h8))) a0 a1 a2 N h (J 0))
theorem SB_L_overlapping_2 (hfl : HF l Θ) (hD : 2 ≤ d) {K37 : mH → Option (Option Nat × mH)} {f0_ : Nat} {f1_ : Int32} {f2_ : Int32}  (hK37 : ∀ (h : mH), mY l Θ d M_L_overlapping 37 [none, none, none, none] [] h (tR vN) (K37 h)) (rc : mH → Int32 → Option (Option Nat × mH)) (ih : ∀ (h : mH) (v3_ : Int32), mY l Θ d M_L_overlapping 2 [some (.ref f0_), some (.int f1_), some (.int f2_), some (.int v3_)] [] h (tR vN) (rc h v3_)) : ∀ (h : mH) (v3_ : Int32), mY l Θ d M_L_overlapping 2 [some (.ref f0_), some (.int f1_), some (.int f2_), some (.int v3_)] [] h (tR vN) (B_L_overlapping_2 Θ N K37 f0_ f1_ f2_ rc h v3_) := by
  intro h v3_
  unfold B_L_overlapping_2
  refine y_iload_n d_L_overlapping_2 rfl ?_
  refine y_aload_n d_L_overlapping_3 rfl ?_
  refine y_getI d_L_overlapping_4 f_L_15 (fun v1 => ?_)
  refine y_icmp_ge (tgt := 37) d_L_overlapping_7 (by decide) ?_ ?_
  · exact y_wk (loc2 := [none, none, none, none]) trivial (hK37 h)
  · refine y_aload_n d_L_overlapping_10 rfl ?_
    refine y_getA d_L_overlapping_11 f_L_11 (fun v2 => ?_)
    refine y_iload_n d_L_overlapping_14 rfl ?_
    refine y_qald (Or.inl rfl) d_L_overlapping_15 (fun v3 => ?_)
    refine y_iload_n d_L_overlapping_16 rfl ?_
    refine y_iload_n d_L_overlapping_17 rfl ?_
    refine y_gO (fun fs1 g1 => y_cI (c_vi (rest := []) d_L_overlapping_18 k_S_overlaps s_L_83 (Or.inl ⟨_, _, _, g1, rfl, rfl⟩) rfl rfl (Nat.le_of_ble_eq_true rfl) (Nat.le_trans (Nat.le_of_ble_eq_true rfl : 1 + 1 ≤ 2) hD) (S_S_overlaps hfl (Nat.le_refl _) h v3 f1_ f2_)) (fun v5 h4 => ?_))
    refine y_if_eq (tgt := 31) d_L_overlapping_21 (by decide) ?_ ?_
    · refine y_iinc (v := (v3_ + (J 1))) (loc2 := [some (.ref f0_), some (.int f1_), some (.int f2_), some (.int (v3_ + (J 1)))]) d_L_overlapping_31 rfl rfl (Nat.le_of_ble_eq_true rfl) rfl rfl ?_
      refine y_goto (tgt := 2) d_L_overlapping_34 (by decide) ?_
      exact ih h4 (v3_ + (J 1))
    · refine y_aload_n d_L_overlapping_24 rfl ?_
      refine y_getA d_L_overlapping_25 f_L_11 (fun v6 => ?_)
      refine y_iload_n d_L_overlapping_28 rfl ?_
      refine y_qald (Or.inl rfl) d_L_overlapping_29 (fun v7 => ?_)
      exact y_retN d_L_overlapping_30 rfl (Or.inl ⟨_, rfl⟩)
theorem S_L_overlapping_2 (hfl : HF l Θ) (hD : 2 ≤ d) {K37 : mH → Option (Option Nat × mH)} {f0_ : Nat} {f1_ : Int32} {f2_ : Int32}  (hK37 : ∀ (h : mH), mY l Θ d M_L_overlapping 37 [none, none, none, none] [] h (tR vN) (K37 h)) : ∀ (n : Nat) (h : mH) (v3_ : Int32), mY l Θ d M_L_overlapping 2 [some (.ref f0_), some (.int f1_), some (.int f2_), some (.int v3_)] [] h (tR vN) (P_L_overlapping_2 Θ N K37 f0_ f1_ f2_ n h v3_) :=
  fun n => lp_all (C := fun (rc : mH → Int32 → Option (Option Nat × mH)) => ∀ (h : mH) (v3_ : Int32), mY l Θ d M_L_overlapping 2 [some (.ref f0_), some (.int f1_), some (.int f2_), some (.int v3_)] [] h (tR vN) (rc h v3_)) (fun _ _ => y_none) (fun rc ih => SB_L_overlapping_2 hfl hD hK37 rc ih) n
theorem S_L_overlapping (hfl : HF l Θ) (hD : 2 ≤ d) (h : mH) (a0 : Nat) (a1 : Int32) (a2 : Int32) : mMs l Θ d M_L_overlapping [.ref a0, .int a1, .int a2] h (tR vN) (P_L_overlapping Θ N h a0 a1 a2) := by
  refine mMs.of hfl (by decide +kernel) rfl (Nat.le_of_ble_eq_true rfl) (loc := [some (.ref a0), some (.int a1), some (.int a2), none]) rfl ?_
  unfold P_L_overlapping
  refine y_iconst (v := (J 0)) d_L_overlapping_0 rfl ?_
  refine y_istore_n (loc2 := [some (.ref a0), some (.int a1), some (.int a2), some (.int (J 0))]) d_L_overlapping_1 (Nat.le_of_ble_eq_true rfl) rfl rfl ?_
  refine S_L_overlapping_2 hfl hD (fun h8 => ?_) N h (J 0)
  refine y_null d_L_overlapping_37 ?_
  exact y_retN0 d_L_overlapping_38 rfl (Or.inl ⟨_, rfl⟩)
noncomputable def B_L_dockedCount_4 (Θ : mW) (N : Nat) (K33 : mH → Int32 → Option (Int32 × mH)) (f0_ : Nat) (rc : mH → Int32 → Int32 → Option (Int32 × mH)) (h : mH) (v1_ : Int32) (v2_ : Int32) : Option (Int32 × mH) :=
  (bo (rI Θ h 2 f0_ 1) (fun v1 => (if v1 ≤ v2_ then (K33 h v1_) else (bo (rA Θ h 2 f0_ 0) (fun v2 => (bo (aRQ Θ h 5 v2 v2_) (fun v3 => (gO Θ h 3 v3 (bc (P_S_isDocked Θ N h v3) (fun v5 h4 => (jn (fun (h7 : mH) (u8 : Int32) => (rc h7 u8 (v2_ + (J 1)))) (fun j6 => (if v5 = 0 then (j6 h4 v1_) else (j6 h4 (v1_ + (J 1))))))))))))))))
noncomputable def P_L_dockedCount_4 (Θ : mW) (N : Nat) (K33 : mH → Int32 → Option (Int32 × mH)) (f0_ : Nat) : Nat → mH → Int32 → Int32 → Option (Int32 × mH) :=
  lp (fun _ _ _ => none) (B_L_dockedCount_4 Θ N K33 f0_)
noncomputable def P_L_dockedCount (Θ : mW) (N : Nat) (h : mH) (a0 : Nat) : Option (Int32 × mH) :=
  (P_L_dockedCount_4 Θ N (fun h9 u10 => (some (u10, h9))) a0 N h (J 0) (J 0))
theorem SB_L_dockedCount_4 (hfl : HF l Θ) (hD : 2 ≤ d) {K33 : mH → Int32 → Option (Int32 × mH)} {f0_ : Nat}  (hK33 : ∀ (h : mH) (v1_ : Int32), mY l Θ d M_L_dockedCount 33 [none, some (.int v1_), none] [] h (tR vI) (K33 h v1_)) (rc : mH → Int32 → Int32 → Option (Int32 × mH)) (ih : ∀ (h : mH) (v1_ : Int32) (v2_ : Int32), mY l Θ d M_L_dockedCount 4 [some (.ref f0_), some (.int v1_), some (.int v2_)] [] h (tR vI) (rc h v1_ v2_)) : ∀ (h : mH) (v1_ : Int32) (v2_ : Int32), mY l Θ d M_L_dockedCount 4 [some (.ref f0_), some (.int v1_), some (.int v2_)] [] h (tR vI) (B_L_dockedCount_4 Θ N K33 f0_ rc h v1_ v2_) := by
  intro h v1_ v2_
  unfold B_L_dockedCount_4
  refine y_iload_n d_L_dockedCount_4 rfl ?_
  refine y_aload_n d_L_dockedCount_5 rfl ?_
  refine y_getI d_L_dockedCount_6 f_L_15 (fun v1 => ?_)
  refine y_icmp_ge (tgt := 33) d_L_dockedCount_9 (by decide) ?_ ?_
  · exact y_wk (loc2 := [none, some (.int v1_), none]) ⟨rfl, trivial⟩ (hK33 h v1_)
  · refine y_aload_n d_L_dockedCount_12 rfl ?_
    refine y_getA d_L_dockedCount_13 f_L_11 (fun v2 => ?_)
    refine y_iload_n d_L_dockedCount_16 rfl ?_
    refine y_qald (Or.inl rfl) d_L_dockedCount_17 (fun v3 => ?_)
    refine y_gO (fun fs1 g1 => y_cI (c_vi (rest := []) d_L_dockedCount_18 k_S_isDocked s_L_41 (Or.inl ⟨_, _, _, g1, rfl, rfl⟩) rfl rfl (Nat.le_of_ble_eq_true rfl) (Nat.le_trans (Nat.le_of_ble_eq_true rfl : 1 + 1 ≤ 2) hD) (S_S_isDocked hfl (Nat.le_refl _) h v3)) (fun v5 h4 => ?_))
    refine y_jn (C := fun (j9 : mH → Int32 → Option (Int32 × mH)) => ∀ (h7 : mH) (u8 : Int32), mY l Θ d M_L_dockedCount 27 [some (.ref f0_), some (.int u8), some (.int v2_)] [] h7 (tR vI) (j9 h7 u8)) (fun h7 u8 => ?_) (fun j6 Hj6 => ?_)
    · refine y_iinc (v := (v2_ + (J 1))) (loc2 := [some (.ref f0_), some (.int u8), some (.int (v2_ + (J 1)))]) d_L_dockedCount_27 rfl rfl (Nat.le_of_ble_eq_true rfl) rfl rfl ?_
      refine y_goto (tgt := 4) d_L_dockedCount_30 (by decide) ?_
      exact ih h7 u8 (v2_ + (J 1))
    · refine y_if_eq (tgt := 27) d_L_dockedCount_21 (by decide) ?_ ?_
      · exact Hj6 h4 v1_
      · refine y_iinc (v := (v1_ + (J 1))) (loc2 := [some (.ref f0_), some (.int (v1_ + (J 1))), some (.int v2_)]) d_L_dockedCount_24 rfl rfl (Nat.le_of_ble_eq_true rfl) rfl rfl ?_
        exact Hj6 h4 (v1_ + (J 1))
theorem S_L_dockedCount_4 (hfl : HF l Θ) (hD : 2 ≤ d) {K33 : mH → Int32 → Option (Int32 × mH)} {f0_ : Nat}  (hK33 : ∀ (h : mH) (v1_ : Int32), mY l Θ d M_L_dockedCount 33 [none, some (.int v1_), none] [] h (tR vI) (K33 h v1_)) : ∀ (n : Nat) (h : mH) (v1_ : Int32) (v2_ : Int32), mY l Θ d M_L_dockedCount 4 [some (.ref f0_), some (.int v1_), some (.int v2_)] [] h (tR vI) (P_L_dockedCount_4 Θ N K33 f0_ n h v1_ v2_) :=
  fun n => lp_all (C := fun (rc : mH → Int32 → Int32 → Option (Int32 × mH)) => ∀ (h : mH) (v1_ : Int32) (v2_ : Int32), mY l Θ d M_L_dockedCount 4 [some (.ref f0_), some (.int v1_), some (.int v2_)] [] h (tR vI) (rc h v1_ v2_)) (fun _ _ _ => y_none) (fun rc ih => SB_L_dockedCount_4 hfl hD hK33 rc ih) n
theorem S_L_dockedCount (hfl : HF l Θ) (hD : 2 ≤ d) (h : mH) (a0 : Nat) : mMs l Θ d M_L_dockedCount [.ref a0] h (tR vI) (P_L_dockedCount Θ N h a0) := by
  refine mMs.of hfl (by decide +kernel) rfl (Nat.le_of_ble_eq_true rfl) (loc := [some (.ref a0), none, none]) rfl ?_
  unfold P_L_dockedCount
  refine y_iconst (v := (J 0)) d_L_dockedCount_0 rfl ?_
  refine y_istore_n (loc2 := [some (.ref a0), some (.int (J 0)), none]) d_L_dockedCount_1 (Nat.le_of_ble_eq_true rfl) rfl rfl ?_
  refine y_iconst (v := (J 0)) d_L_dockedCount_2 rfl ?_
  refine y_istore_n (loc2 := [some (.ref a0), some (.int (J 0)), some (.int (J 0))]) d_L_dockedCount_3 (Nat.le_of_ble_eq_true rfl) rfl rfl ?_
  refine S_L_dockedCount_4 hfl hD (fun h9 u10 => ?_) N h (J 0) (J 0)
  refine y_iload_n d_L_dockedCount_33 rfl ?_
  exact y_retI d_L_dockedCount_34 rfl rfl
noncomputable def P_L_docked (Θ : mW) (N : Nat) (h : mH) (a0 : Nat) (a1 : Int32) : Option ((Nat ⊕ Nat) × mH) :=
  (gO Θ h 2 a0 (bx (P_L_known Θ N h a0 a1) (fun v2 h1 => (gO Θ h1 3 v2 (bc (P_S_isDocked Θ N h1 v2) (fun v4 h3 => (if v4 = 0 then (xp 12 (h3 ++ [oB 12 []])) else (some (.inl v2, h3))))))) (fun n9 h9 => xp n9 h9)))
theorem S_L_docked (hfl : HF l Θ) (hD : 7 ≤ d) (h : mH) (a0 : Nat) (a1 : Int32) : mMs l Θ d M_L_docked [.ref a0, .int a1] h (tX vA) (P_L_docked Θ N h a0 a1) := by
  refine mMs.of hfl (by decide +kernel) rfl (Nat.le_of_ble_eq_true rfl) (loc := [some (.ref a0), some (.int a1), none]) rfl ?_
  unfold P_L_docked
  refine y_aload_n d_L_docked_0 rfl ?_
  refine y_iload_n d_L_docked_1 rfl ?_
  refine y_gO (fun fs1 g1 => y_xA (c_vi (rest := []) d_L_docked_2 k_L_known s_L_37 (Or.inl ⟨_, _, _, g1, rfl, rfl⟩) rfl rfl (Nat.le_of_ble_eq_true rfl) (Nat.le_trans (Nat.le_of_ble_eq_true rfl : 6 + 1 ≤ 7) hD) (S_L_known hfl (Nat.le_refl _) h a0 a1)) (fun v2 h1 => ?_) (fun _ _ => y_hp rfl))
  refine y_astore_n (loc2 := [some (.ref a0), some (.int a1), some (.ref v2)]) d_L_docked_5 (Nat.le_of_ble_eq_true rfl) rfl rfl ?_
  refine y_aload_n d_L_docked_6 rfl ?_
  refine y_gO (fun fs1 g1 => y_cI (c_vi (rest := []) d_L_docked_7 k_S_isDocked s_L_41 (Or.inl ⟨_, _, _, g1, rfl, rfl⟩) rfl rfl (Nat.le_of_ble_eq_true rfl) (Nat.le_trans (Nat.le_of_ble_eq_true rfl : 1 + 1 ≤ 7) hD) (S_S_isDocked hfl (Nat.le_refl _) h1 v2)) (fun v4 h3 => ?_))
  refine y_if_ne (tgt := 23) d_L_docked_10 (by decide) ?_ ?_
  · refine y_aload_n d_L_docked_23 rfl ?_
    exact y_retAX d_L_docked_24 rfl (Or.inl ⟨_, rfl⟩)
  · exact y_throw rfl d_L_docked_13 d_L_docked_16 d_L_docked_17 d_L_docked_19 d_L_docked_22 mExc_12 y_L_45 x_L_49 (List.mem_of_getElem? (i := 7) rfl) (Nat.le_of_ble_eq_true rfl) (Nat.le_trans (Nat.le_of_ble_eq_true rfl) hD)
noncomputable def P_L_checkGapLength (Θ : mW) (N : Nat) (h : mH) (a0 : Int32) : Option ((Unit ⊕ Nat) × mH) :=
  (if a0 < (J 1) then (xp 11 (h ++ [oB 11 []])) else (if a0 ≤ (J 60) then (some (.inl (), h)) else (xp 11 (h ++ [oB 11 []]))))
theorem S_L_checkGapLength (hfl : HF l Θ) (hD : 6 ≤ d) (h : mH) (a0 : Int32) : mMs l Θ d M_L_checkGapLength [.int a0] h (tX vU) (P_L_checkGapLength Θ N h a0) := by
  refine mMs.of hfl (by decide +kernel) rfl (Nat.le_of_ble_eq_true rfl) (loc := [some (.int a0)]) rfl ?_
  unfold P_L_checkGapLength
  refine y_iload_n d_L_checkGapLength_0 rfl ?_
  refine y_iconst (v := (J 1)) d_L_checkGapLength_1 rfl ?_
  refine y_icmp_lt (tgt := 11) d_L_checkGapLength_2 (by decide) ?_ ?_
  · exact y_throw rfl d_L_checkGapLength_11 d_L_checkGapLength_14 d_L_checkGapLength_15 d_L_checkGapLength_17 d_L_checkGapLength_20 mExc_11 y_L_50 x_L_54 (List.mem_of_getElem? (i := 31) rfl) (Nat.le_of_ble_eq_true rfl) (Nat.le_trans (Nat.le_of_ble_eq_true rfl) hD)
  · refine y_iload_n d_L_checkGapLength_5 rfl ?_
    refine y_bipush (v := (J 60)) d_L_checkGapLength_6 (by decide +kernel) ?_
    refine y_icmp_le (tgt := 21) d_L_checkGapLength_8 (by decide) ?_ ?_
    · exact y_retUX d_L_checkGapLength_21 rfl
    · exact y_throw rfl d_L_checkGapLength_11 d_L_checkGapLength_14 d_L_checkGapLength_15 d_L_checkGapLength_17 d_L_checkGapLength_20 mExc_11 y_L_50 x_L_54 (List.mem_of_getElem? (i := 31) rfl) (Nat.le_of_ble_eq_true rfl) (Nat.le_trans (Nat.le_of_ble_eq_true rfl) hD)
noncomputable def B_L_gapByPositions_2 (Θ : mW) (N : Nat) (K27 : mH → Option (Int32 × mH)) (f0_ : Nat) (f1_ : Int32) (rc : mH → Int32 → Option (Int32 × mH)) (h : mH) (v2_ : Int32) : Option (Int32 × mH) :=
  (if (J 60) < (v2_ + f1_) then (K27 h) else (gO Θ h 2 f0_ (bn (P_L_overlapping Θ N h f0_ v2_ f1_) (fun v2 h1 => (rc h1 (v2_ + (J 1)))) (fun h3 => (some (v2_, h3))))))
noncomputable def P_L_gapByPositions_2 (Θ : mW) (N : Nat) (K27 : mH → Option (Int32 × mH)) (f0_ : Nat) (f1_ : Int32) : Nat → mH → Int32 → Option (Int32 × mH) :=
  lp (fun _ _ => none) (B_L_gapByPositions_2 Θ N K27 f0_ f1_)
noncomputable def P_L_gapByPositions (Θ : mW) (N : Nat) (h : mH) (a0 : Nat) (a1 : Int32) : Option (Int32 × mH) :=
  (P_L_gapByPositions_2 Θ N (fun h4 => (some ((J (-1)), h4))) a0 a1 N h (J 0))
theorem SB_L_gapByPositions_2 (hfl : HF l Θ) (hD : 3 ≤ d) {K27 : mH → Option (Int32 × mH)} {f0_ : Nat} {f1_ : Int32}  (hK27 : ∀ (h : mH), mY l Θ d M_L_gapByPositions 27 [none, none, none] [] h (tR vI) (K27 h)) (rc : mH → Int32 → Option (Int32 × mH)) (ih : ∀ (h : mH) (v2_ : Int32), mY l Θ d M_L_gapByPositions 2 [some (.ref f0_), some (.int f1_), some (.int v2_)] [] h (tR vI) (rc h v2_)) : ∀ (h : mH) (v2_ : Int32), mY l Θ d M_L_gapByPositions 2 [some (.ref f0_), some (.int f1_), some (.int v2_)] [] h (tR vI) (B_L_gapByPositions_2 Θ N K27 f0_ f1_ rc h v2_) := by
  intro h v2_
  unfold B_L_gapByPositions_2
  refine y_iload_n d_L_gapByPositions_2 rfl ?_
  refine y_iload_n d_L_gapByPositions_3 rfl ?_
  refine y_iadd (v := (v2_ + f1_)) d_L_gapByPositions_4 rfl ?_
  refine y_bipush (v := (J 60)) d_L_gapByPositions_5 (by decide +kernel) ?_
  refine y_icmp_gt (tgt := 27) d_L_gapByPositions_7 (by decide) ?_ ?_
  · exact y_wk (loc2 := [none, none, none]) trivial (hK27 h)
  · refine y_aload_n d_L_gapByPositions_10 rfl ?_
    refine y_iload_n d_L_gapByPositions_11 rfl ?_
    refine y_iload_n d_L_gapByPositions_12 rfl ?_
    refine y_gO (fun fs1 g1 => y_cN (c_vi (rest := []) d_L_gapByPositions_13 k_L_overlapping s_L_92 (Or.inl ⟨_, _, _, g1, rfl, rfl⟩) rfl rfl (Nat.le_of_ble_eq_true rfl) (Nat.le_trans (Nat.le_of_ble_eq_true rfl : 2 + 1 ≤ 3) hD) (S_L_overlapping hfl (Nat.le_refl _) h f0_ v2_ f1_)) (fun v2 h1 => ?_) (fun h3 => ?_))
    · refine y_ifnonnull (tgt := 21) d_L_gapByPositions_16 (by decide) ?_
      refine y_iinc (v := (v2_ + (J 1))) (loc2 := [some (.ref f0_), some (.int f1_), some (.int (v2_ + (J 1)))]) d_L_gapByPositions_21 rfl rfl (Nat.le_of_ble_eq_true rfl) rfl rfl ?_
      refine y_goto (tgt := 2) d_L_gapByPositions_24 (by decide) ?_
      exact ih h1 (v2_ + (J 1))
    · refine y_ifnonnullN d_L_gapByPositions_16 ?_
      refine y_iload_n d_L_gapByPositions_19 rfl ?_
      exact y_retI d_L_gapByPositions_20 rfl rfl
theorem S_L_gapByPositions_2 (hfl : HF l Θ) (hD : 3 ≤ d) {K27 : mH → Option (Int32 × mH)} {f0_ : Nat} {f1_ : Int32}  (hK27 : ∀ (h : mH), mY l Θ d M_L_gapByPositions 27 [none, none, none] [] h (tR vI) (K27 h)) : ∀ (n : Nat) (h : mH) (v2_ : Int32), mY l Θ d M_L_gapByPositions 2 [some (.ref f0_), some (.int f1_), some (.int v2_)] [] h (tR vI) (P_L_gapByPositions_2 Θ N K27 f0_ f1_ n h v2_) :=
  fun n => lp_all (C := fun (rc : mH → Int32 → Option (Int32 × mH)) => ∀ (h : mH) (v2_ : Int32), mY l Θ d M_L_gapByPositions 2 [some (.ref f0_), some (.int f1_), some (.int v2_)] [] h (tR vI) (rc h v2_)) (fun _ _ => y_none) (fun rc ih => SB_L_gapByPositions_2 hfl hD hK27 rc ih) n
theorem S_L_gapByPositions (hfl : HF l Θ) (hD : 3 ≤ d) (h : mH) (a0 : Nat) (a1 : Int32) : mMs l Θ d M_L_gapByPositions [.ref a0, .int a1] h (tR vI) (P_L_gapByPositions Θ N h a0 a1) := by
  refine mMs.of hfl (by decide +kernel) rfl (Nat.le_of_ble_eq_true rfl) (loc := [some (.ref a0), some (.int a1), none]) rfl ?_
  unfold P_L_gapByPositions
  refine y_iconst (v := (J 0)) d_L_gapByPositions_0 rfl ?_
  refine y_istore_n (loc2 := [some (.ref a0), some (.int a1), some (.int (J 0))]) d_L_gapByPositions_1 (Nat.le_of_ble_eq_true rfl) rfl rfl ?_
  refine S_L_gapByPositions_2 hfl hD (fun h4 => ?_) N h (J 0)
  refine y_iconst (v := (J (-1))) d_L_gapByPositions_27 rfl ?_
  exact y_retI d_L_gapByPositions_28 rfl rfl
noncomputable def B_L_gapByShips_4 (Θ : mW) (N : Nat) (K37 : mH → Int32 → Option (Int32 × mH)) (f0_ : Nat) (f1_ : Int32) (rc : mH → Int32 → Int32 → Option (Int32 × mH)) (h : mH) (v2_ : Int32) (v3_ : Int32) : Option (Int32 × mH) :=
  (bo (rI Θ h 2 f0_ 1) (fun v1 => (if v1 ≤ v3_ then (K37 h v2_) else (gO Θ h 2 f0_ (bn (P_L_overlapping Θ N h f0_ v2_ f1_) (fun v3 h2 => (jn (fun (h6 : mH) (u7 : Int32) => (rc h6 u7 (v3_ + (J 1)))) (fun j5 => (gO Θ h2 3 v3 (bc (P_S_end Θ N h2 v3) (fun v9 h8 => (j5 h8 v9))))))) (fun h4 => (jn (fun (h11 : mH) (u12 : Int32) => (rc h11 u12 (v3_ + (J 1)))) (fun j10 => (j10 h4 v2_)))))))))
noncomputable def P_L_gapByShips_4 (Θ : mW) (N : Nat) (K37 : mH → Int32 → Option (Int32 × mH)) (f0_ : Nat) (f1_ : Int32) : Nat → mH → Int32 → Int32 → Option (Int32 × mH) :=
  lp (fun _ _ _ => none) (B_L_gapByShips_4 Θ N K37 f0_ f1_)
noncomputable def P_L_gapByShips (Θ : mW) (N : Nat) (h : mH) (a0 : Nat) (a1 : Int32) : Option (Int32 × mH) :=
  (P_L_gapByShips_4 Θ N (fun h13 u14 => (if (J 60) < (u14 + a1) then (some ((J (-1)), h13)) else (some (u14, h13)))) a0 a1 N h (J 0) (J 0))
theorem SB_L_gapByShips_4 (hfl : HF l Θ) (hD : 3 ≤ d) {K37 : mH → Int32 → Option (Int32 × mH)} {f0_ : Nat} {f1_ : Int32}  (hK37 : ∀ (h : mH) (v2_ : Int32), mY l Θ d M_L_gapByShips 37 [none, some (.int f1_), some (.int v2_), none, none] [] h (tR vI) (K37 h v2_)) (rc : mH → Int32 → Int32 → Option (Int32 × mH)) (ih : ∀ (h : mH) (v2_ : Int32) (v3_ : Int32), mY l Θ d M_L_gapByShips 4 [some (.ref f0_), some (.int f1_), some (.int v2_), some (.int v3_), none] [] h (tR vI) (rc h v2_ v3_)) : ∀ (h : mH) (v2_ : Int32) (v3_ : Int32), mY l Θ d M_L_gapByShips 4 [some (.ref f0_), some (.int f1_), some (.int v2_), some (.int v3_), none] [] h (tR vI) (B_L_gapByShips_4 Θ N K37 f0_ f1_ rc h v2_ v3_) := by
  intro h v2_ v3_
  unfold B_L_gapByShips_4
  refine y_iload_n d_L_gapByShips_4 rfl ?_
  refine y_aload_n d_L_gapByShips_5 rfl ?_
  refine y_getI d_L_gapByShips_6 f_L_15 (fun v1 => ?_)
  refine y_icmp_ge (tgt := 37) d_L_gapByShips_9 (by decide) ?_ ?_
  · exact y_wk (loc2 := [none, some (.int f1_), some (.int v2_), none, none]) ⟨rfl, ⟨rfl, trivial⟩⟩ (hK37 h v2_)
  · refine y_aload_n d_L_gapByShips_12 rfl ?_
    refine y_iload_n d_L_gapByShips_13 rfl ?_
    refine y_iload_n d_L_gapByShips_14 rfl ?_
    refine y_gO (fun fs1 g1 => y_cN (c_vi (rest := []) d_L_gapByShips_15 k_L_overlapping s_L_92 (Or.inl ⟨_, _, _, g1, rfl, rfl⟩) rfl rfl (Nat.le_of_ble_eq_true rfl) (Nat.le_trans (Nat.le_of_ble_eq_true rfl : 2 + 1 ≤ 3) hD) (S_L_overlapping hfl (Nat.le_refl _) h f0_ v2_ f1_)) (fun v3 h2 => ?_) (fun h4 => ?_))
    · refine y_astore (loc2 := [some (.ref f0_), some (.int f1_), some (.int v2_), some (.int v3_), some (.ref v3)]) d_L_gapByShips_18 (Nat.le_of_ble_eq_true rfl) rfl rfl ?_
      refine y_aload d_L_gapByShips_20 rfl ?_
      refine y_jn (C := fun (j9 : mH → Int32 → Option (Int32 × mH)) => ∀ (h6 : mH) (u7 : Int32), mY l Θ d M_L_gapByShips 31 [some (.ref f0_), some (.int f1_), some (.int u7), some (.int v3_), none] [] h6 (tR vI) (j9 h6 u7)) (fun h6 u7 => ?_) (fun j5 Hj5 => ?_)
      · refine y_iinc (v := (v3_ + (J 1))) (loc2 := [some (.ref f0_), some (.int f1_), some (.int u7), some (.int (v3_ + (J 1))), none]) d_L_gapByShips_31 rfl rfl (Nat.le_of_ble_eq_true rfl) rfl rfl ?_
        refine y_goto (tgt := 4) d_L_gapByShips_34 (by decide) ?_
        exact ih h6 u7 (v3_ + (J 1))
      · refine y_ifnull d_L_gapByShips_22 ?_
        refine y_aload d_L_gapByShips_25 rfl ?_
        refine y_gO (fun fs1 g1 => y_cI (c_vi (rest := []) d_L_gapByShips_27 k_S_end s_L_96 (Or.inl ⟨_, _, _, g1, rfl, rfl⟩) rfl rfl (Nat.le_of_ble_eq_true rfl) (Nat.le_trans (Nat.le_of_ble_eq_true rfl : 1 + 1 ≤ 3) hD) (S_S_end hfl (Nat.le_refl _) h2 v3)) (fun v9 h8 => ?_))
        refine y_istore_n (loc2 := [some (.ref f0_), some (.int f1_), some (.int v9), some (.int v3_), some (.ref v3)]) d_L_gapByShips_30 (Nat.le_of_ble_eq_true rfl) rfl rfl ?_
        exact y_wk (loc2 := [some (.ref f0_), some (.int f1_), some (.int v9), some (.int v3_), none]) ⟨rfl, ⟨rfl, ⟨rfl, ⟨rfl, trivial⟩⟩⟩⟩ (Hj5 h8 v9)
    · refine y_astoreN (loc2 := [some (.ref f0_), some (.int f1_), some (.int v2_), some (.int v3_), some (.null)]) d_L_gapByShips_18 (Nat.le_of_ble_eq_true rfl) rfl rfl ?_
      refine y_aloadN d_L_gapByShips_20 rfl ?_
      refine y_jn (C := fun (j9 : mH → Int32 → Option (Int32 × mH)) => ∀ (h11 : mH) (u12 : Int32), mY l Θ d M_L_gapByShips 31 [some (.ref f0_), some (.int f1_), some (.int u12), some (.int v3_), none] [] h11 (tR vI) (j9 h11 u12)) (fun h11 u12 => ?_) (fun j10 Hj10 => ?_)
      · refine y_iinc (v := (v3_ + (J 1))) (loc2 := [some (.ref f0_), some (.int f1_), some (.int u12), some (.int (v3_ + (J 1))), none]) d_L_gapByShips_31 rfl rfl (Nat.le_of_ble_eq_true rfl) rfl rfl ?_
        refine y_goto (tgt := 4) d_L_gapByShips_34 (by decide) ?_
        exact ih h11 u12 (v3_ + (J 1))
      · refine y_ifnullN (tgt := 31) d_L_gapByShips_22 (by decide) ?_
        exact y_wk (loc2 := [some (.ref f0_), some (.int f1_), some (.int v2_), some (.int v3_), none]) ⟨rfl, ⟨rfl, ⟨rfl, ⟨rfl, trivial⟩⟩⟩⟩ (Hj10 h4 v2_)
theorem S_L_gapByShips_4 (hfl : HF l Θ) (hD : 3 ≤ d) {K37 : mH → Int32 → Option (Int32 × mH)} {f0_ : Nat} {f1_ : Int32}  (hK37 : ∀ (h : mH) (v2_ : Int32), mY l Θ d M_L_gapByShips 37 [none, some (.int f1_), some (.int v2_), none, none] [] h (tR vI) (K37 h v2_)) : ∀ (n : Nat) (h : mH) (v2_ : Int32) (v3_ : Int32), mY l Θ d M_L_gapByShips 4 [some (.ref f0_), some (.int f1_), some (.int v2_), some (.int v3_), none] [] h (tR vI) (P_L_gapByShips_4 Θ N K37 f0_ f1_ n h v2_ v3_) :=
  fun n => lp_all (C := fun (rc : mH → Int32 → Int32 → Option (Int32 × mH)) => ∀ (h : mH) (v2_ : Int32) (v3_ : Int32), mY l Θ d M_L_gapByShips 4 [some (.ref f0_), some (.int f1_), some (.int v2_), some (.int v3_), none] [] h (tR vI) (rc h v2_ v3_)) (fun _ _ _ => y_none) (fun rc ih => SB_L_gapByShips_4 hfl hD hK37 rc ih) n
theorem S_L_gapByShips (hfl : HF l Θ) (hD : 3 ≤ d) (h : mH) (a0 : Nat) (a1 : Int32) : mMs l Θ d M_L_gapByShips [.ref a0, .int a1] h (tR vI) (P_L_gapByShips Θ N h a0 a1) := by
  refine mMs.of hfl (by decide +kernel) rfl (Nat.le_of_ble_eq_true rfl) (loc := [some (.ref a0), some (.int a1), none, none, none]) rfl ?_
  unfold P_L_gapByShips
  refine y_iconst (v := (J 0)) d_L_gapByShips_0 rfl ?_
  refine y_istore_n (loc2 := [some (.ref a0), some (.int a1), some (.int (J 0)), none, none]) d_L_gapByShips_1 (Nat.le_of_ble_eq_true rfl) rfl rfl ?_
  refine y_iconst (v := (J 0)) d_L_gapByShips_2 rfl ?_
  refine y_istore_n (loc2 := [some (.ref a0), some (.int a1), some (.int (J 0)), some (.int (J 0)), none]) d_L_gapByShips_3 (Nat.le_of_ble_eq_true rfl) rfl rfl ?_
  refine S_L_gapByShips_4 hfl hD (fun h13 u14 => ?_) N h (J 0) (J 0)
  refine y_iload_n d_L_gapByShips_37 rfl ?_
  refine y_iload_n d_L_gapByShips_38 rfl ?_
  refine y_iadd (v := (u14 + a1)) d_L_gapByShips_39 rfl ?_
  refine y_bipush (v := (J 60)) d_L_gapByShips_40 (by decide +kernel) ?_
  refine y_icmp_gt (tgt := 49) d_L_gapByShips_42 (by decide) ?_ ?_
  · refine y_iconst (v := (J (-1))) d_L_gapByShips_49 rfl ?_
    exact y_retI d_L_gapByShips_50 rfl rfl
  · refine y_iload_n d_L_gapByShips_45 rfl ?_
    refine y_goto (tgt := 50) d_L_gapByShips_46 (by decide) ?_
    exact y_retI d_L_gapByShips_50 rfl rfl
noncomputable def B_L_rankOf_4 (Θ : mW) (N : Nat) (K34 : mH → Int32 → Option (Int32 × mH)) (f0_ : Nat) (f1_ : Nat) (rc : mH → Int32 → Int32 → Option (Int32 × mH)) (h : mH) (v2_ : Int32) (v3_ : Int32) : Option (Int32 × mH) :=
  (bo (rI Θ h 2 f0_ 1) (fun v1 => (if v1 ≤ v3_ then (K34 h v2_) else (bo (rA Θ h 2 f0_ 0) (fun v2 => (bo (aRQ Θ h 5 v2 v3_) (fun v3 => (gO Θ h 3 v3 (bc (P_S_ranksBefore Θ N h v3 f1_) (fun v5 h4 => (jn (fun (h7 : mH) (u8 : Int32) => (rc h7 u8 (v3_ + (J 1)))) (fun j6 => (if v5 = 0 then (j6 h4 v2_) else (j6 h4 (v2_ + (J 1))))))))))))))))
noncomputable def P_L_rankOf_4 (Θ : mW) (N : Nat) (K34 : mH → Int32 → Option (Int32 × mH)) (f0_ : Nat) (f1_ : Nat) : Nat → mH → Int32 → Int32 → Option (Int32 × mH) :=
  lp (fun _ _ _ => none) (B_L_rankOf_4 Θ N K34 f0_ f1_)
noncomputable def P_L_rankOf (Θ : mW) (N : Nat) (h : mH) (a0 : Nat) (a1 : Nat) : Option (Int32 × mH) :=
  (P_L_rankOf_4 Θ N (fun h9 u10 => (some (u10, h9))) a0 a1 N h (J 0) (J 0))
theorem SB_L_rankOf_4 (hfl : HF l Θ) (hD : 2 ≤ d) {K34 : mH → Int32 → Option (Int32 × mH)} {f0_ : Nat} {f1_ : Nat}  (hK34 : ∀ (h : mH) (v2_ : Int32), mY l Θ d M_L_rankOf 34 [none, none, some (.int v2_), none] [] h (tR vI) (K34 h v2_)) (rc : mH → Int32 → Int32 → Option (Int32 × mH)) (ih : ∀ (h : mH) (v2_ : Int32) (v3_ : Int32), mY l Θ d M_L_rankOf 4 [some (.ref f0_), some (.ref f1_), some (.int v2_), some (.int v3_)] [] h (tR vI) (rc h v2_ v3_)) : ∀ (h : mH) (v2_ : Int32) (v3_ : Int32), mY l Θ d M_L_rankOf 4 [some (.ref f0_), some (.ref f1_), some (.int v2_), some (.int v3_)] [] h (tR vI) (B_L_rankOf_4 Θ N K34 f0_ f1_ rc h v2_ v3_) := by
  intro h v2_ v3_
  unfold B_L_rankOf_4
  refine y_iload_n d_L_rankOf_4 rfl ?_
  refine y_aload_n d_L_rankOf_5 rfl ?_
  refine y_getI d_L_rankOf_6 f_L_15 (fun v1 => ?_)
  refine y_icmp_ge (tgt := 34) d_L_rankOf_9 (by decide) ?_ ?_
  · exact y_wk (loc2 := [none, none, some (.int v2_), none]) ⟨rfl, trivial⟩ (hK34 h v2_)
  · refine y_aload_n d_L_rankOf_12 rfl ?_
    refine y_getA d_L_rankOf_13 f_L_11 (fun v2 => ?_)
    refine y_iload_n d_L_rankOf_16 rfl ?_
    refine y_qald (Or.inl rfl) d_L_rankOf_17 (fun v3 => ?_)
    refine y_aload_n d_L_rankOf_18 rfl ?_
    refine y_gO (fun fs1 g1 => y_cI (c_vi (rest := []) d_L_rankOf_19 k_S_ranksBefore s_L_79 (Or.inl ⟨_, _, _, g1, rfl, rfl⟩) rfl rfl (Nat.le_of_ble_eq_true rfl) (Nat.le_trans (Nat.le_of_ble_eq_true rfl : 1 + 1 ≤ 2) hD) (S_S_ranksBefore hfl (Nat.le_refl _) h v3 f1_)) (fun v5 h4 => ?_))
    refine y_jn (C := fun (j9 : mH → Int32 → Option (Int32 × mH)) => ∀ (h7 : mH) (u8 : Int32), mY l Θ d M_L_rankOf 28 [some (.ref f0_), some (.ref f1_), some (.int u8), some (.int v3_)] [] h7 (tR vI) (j9 h7 u8)) (fun h7 u8 => ?_) (fun j6 Hj6 => ?_)
    · refine y_iinc (v := (v3_ + (J 1))) (loc2 := [some (.ref f0_), some (.ref f1_), some (.int u8), some (.int (v3_ + (J 1)))]) d_L_rankOf_28 rfl rfl (Nat.le_of_ble_eq_true rfl) rfl rfl ?_
      refine y_goto (tgt := 4) d_L_rankOf_31 (by decide) ?_
      exact ih h7 u8 (v3_ + (J 1))
    · refine y_if_eq (tgt := 28) d_L_rankOf_22 (by decide) ?_ ?_
      · exact Hj6 h4 v2_
      · refine y_iinc (v := (v2_ + (J 1))) (loc2 := [some (.ref f0_), some (.ref f1_), some (.int (v2_ + (J 1))), some (.int v3_)]) d_L_rankOf_25 rfl rfl (Nat.le_of_ble_eq_true rfl) rfl rfl ?_
        exact Hj6 h4 (v2_ + (J 1))
theorem S_L_rankOf_4 (hfl : HF l Θ) (hD : 2 ≤ d) {K34 : mH → Int32 → Option (Int32 × mH)} {f0_ : Nat} {f1_ : Nat}  (hK34 : ∀ (h : mH) (v2_ : Int32), mY l Θ d M_L_rankOf 34 [none, none, some (.int v2_), none] [] h (tR vI) (K34 h v2_)) : ∀ (n : Nat) (h : mH) (v2_ : Int32) (v3_ : Int32), mY l Θ d M_L_rankOf 4 [some (.ref f0_), some (.ref f1_), some (.int v2_), some (.int v3_)] [] h (tR vI) (P_L_rankOf_4 Θ N K34 f0_ f1_ n h v2_ v3_) :=
  fun n => lp_all (C := fun (rc : mH → Int32 → Int32 → Option (Int32 × mH)) => ∀ (h : mH) (v2_ : Int32) (v3_ : Int32), mY l Θ d M_L_rankOf 4 [some (.ref f0_), some (.ref f1_), some (.int v2_), some (.int v3_)] [] h (tR vI) (rc h v2_ v3_)) (fun _ _ _ => y_none) (fun rc ih => SB_L_rankOf_4 hfl hD hK34 rc ih) n
theorem S_L_rankOf (hfl : HF l Θ) (hD : 2 ≤ d) (h : mH) (a0 : Nat) (a1 : Nat) : mMs l Θ d M_L_rankOf [.ref a0, .ref a1] h (tR vI) (P_L_rankOf Θ N h a0 a1) := by
  refine mMs.of hfl (by decide +kernel) rfl (Nat.le_of_ble_eq_true rfl) (loc := [some (.ref a0), some (.ref a1), none, none]) rfl ?_
  unfold P_L_rankOf
  refine y_iconst (v := (J 0)) d_L_rankOf_0 rfl ?_
  refine y_istore_n (loc2 := [some (.ref a0), some (.ref a1), some (.int (J 0)), none]) d_L_rankOf_1 (Nat.le_of_ble_eq_true rfl) rfl rfl ?_
  refine y_iconst (v := (J 0)) d_L_rankOf_2 rfl ?_
  refine y_istore_n (loc2 := [some (.ref a0), some (.ref a1), some (.int (J 0)), some (.int (J 0))]) d_L_rankOf_3 (Nat.le_of_ble_eq_true rfl) rfl rfl ?_
  refine S_L_rankOf_4 hfl hD (fun h9 u10 => ?_) N h (J 0) (J 0)
  refine y_iload_n d_L_rankOf_34 rfl ?_
  exact y_retI d_L_rankOf_35 rfl rfl
noncomputable def B_L_ranked_2 (Θ : mW) (N : Nat) (K37 : mH → Option (Option Nat × mH)) (f0_ : Nat) (f1_ : Int32) (rc : mH → Int32 → Option (Option Nat × mH)) (h : mH) (v2_ : Int32) : Option (Option Nat × mH) :=
  (bo (rI Θ h 2 f0_ 1) (fun v1 => (if v1 ≤ v2_ then (K37 h) else (bo (rA Θ h 2 f0_ 0) (fun v2 => (bo (aRQ Θ h 5 v2 v2_) (fun v3 => (gO Θ h 2 f0_ (bc (P_L_rankOf Θ N h f0_ v3) (fun v5 h4 => (if v5 = f1_ then (bo (rA Θ h4 2 f0_ 0) (fun v6 => (bo (aRQ Θ h4 5 v6 v2_) (fun v7 => (some (some v7, h4)))))) else (rc h4 (v2_ + (J 1))))))))))))))
noncomputable def P_L_ranked_2 (Θ : mW) (N : Nat) (K37 : mH → Option (Option Nat × mH)) (f0_ : Nat) (f1_ : Int32) : Nat → mH → Int32 → Option (Option Nat × mH) :=
  lp (fun _ _ => none) (B_L_ranked_2 Θ N K37 f0_ f1_)
noncomputable def P_L_ranked (Θ : mW) (N : Nat) (h : mH) (a0 : Nat) (a1 : Int32) : Option (Option Nat × mH) :=
  (P_L_ranked_2 Θ N (fun h8 => (some (none, h8))) a0 a1 N h (J 0))
theorem SB_L_ranked_2 (hfl : HF l Θ) (hD : 3 ≤ d) {K37 : mH → Option (Option Nat × mH)} {f0_ : Nat} {f1_ : Int32}  (hK37 : ∀ (h : mH), mY l Θ d M_L_ranked 37 [none, none, none] [] h (tR vN) (K37 h)) (rc : mH → Int32 → Option (Option Nat × mH)) (ih : ∀ (h : mH) (v2_ : Int32), mY l Θ d M_L_ranked 2 [some (.ref f0_), some (.int f1_), some (.int v2_)] [] h (tR vN) (rc h v2_)) : ∀ (h : mH) (v2_ : Int32), mY l Θ d M_L_ranked 2 [some (.ref f0_), some (.int f1_), some (.int v2_)] [] h (tR vN) (B_L_ranked_2 Θ N K37 f0_ f1_ rc h v2_) := by
  intro h v2_
  unfold B_L_ranked_2
  refine y_iload_n d_L_ranked_2 rfl ?_
  refine y_aload_n d_L_ranked_3 rfl ?_
  refine y_getI d_L_ranked_4 f_L_15 (fun v1 => ?_)
  refine y_icmp_ge (tgt := 37) d_L_ranked_7 (by decide) ?_ ?_
  · exact y_wk (loc2 := [none, none, none]) trivial (hK37 h)
  · refine y_aload_n d_L_ranked_10 rfl ?_
    refine y_aload_n d_L_ranked_11 rfl ?_
    refine y_getA d_L_ranked_12 f_L_11 (fun v2 => ?_)
    refine y_iload_n d_L_ranked_15 rfl ?_
    refine y_qald (Or.inl rfl) d_L_ranked_16 (fun v3 => ?_)
    refine y_gO (fun fs1 g1 => y_cI (c_vi (rest := []) d_L_ranked_17 k_L_rankOf s_L_75 (Or.inl ⟨_, _, _, g1, rfl, rfl⟩) rfl rfl (Nat.le_of_ble_eq_true rfl) (Nat.le_trans (Nat.le_of_ble_eq_true rfl : 2 + 1 ≤ 3) hD) (S_L_rankOf hfl (Nat.le_refl _) h f0_ v3)) (fun v5 h4 => ?_))
    refine y_iload_n d_L_ranked_20 rfl ?_
    refine y_icmp_ne (tgt := 31) d_L_ranked_21 (by decide) ?_ ?_
    · refine y_iinc (v := (v2_ + (J 1))) (loc2 := [some (.ref f0_), some (.int f1_), some (.int (v2_ + (J 1)))]) d_L_ranked_31 rfl rfl (Nat.le_of_ble_eq_true rfl) rfl rfl ?_
      refine y_goto (tgt := 2) d_L_ranked_34 (by decide) ?_
      exact ih h4 (v2_ + (J 1))
    · refine y_aload_n d_L_ranked_24 rfl ?_
      refine y_getA d_L_ranked_25 f_L_11 (fun v6 => ?_)
      refine y_iload_n d_L_ranked_28 rfl ?_
      refine y_qald (Or.inl rfl) d_L_ranked_29 (fun v7 => ?_)
      exact y_retN d_L_ranked_30 rfl (Or.inl ⟨_, rfl⟩)
theorem S_L_ranked_2 (hfl : HF l Θ) (hD : 3 ≤ d) {K37 : mH → Option (Option Nat × mH)} {f0_ : Nat} {f1_ : Int32}  (hK37 : ∀ (h : mH), mY l Θ d M_L_ranked 37 [none, none, none] [] h (tR vN) (K37 h)) : ∀ (n : Nat) (h : mH) (v2_ : Int32), mY l Θ d M_L_ranked 2 [some (.ref f0_), some (.int f1_), some (.int v2_)] [] h (tR vN) (P_L_ranked_2 Θ N K37 f0_ f1_ n h v2_) :=
  fun n => lp_all (C := fun (rc : mH → Int32 → Option (Option Nat × mH)) => ∀ (h : mH) (v2_ : Int32), mY l Θ d M_L_ranked 2 [some (.ref f0_), some (.int f1_), some (.int v2_)] [] h (tR vN) (rc h v2_)) (fun _ _ => y_none) (fun rc ih => SB_L_ranked_2 hfl hD hK37 rc ih) n
theorem S_L_ranked (hfl : HF l Θ) (hD : 3 ≤ d) (h : mH) (a0 : Nat) (a1 : Int32) : mMs l Θ d M_L_ranked [.ref a0, .int a1] h (tR vN) (P_L_ranked Θ N h a0 a1) := by
  refine mMs.of hfl (by decide +kernel) rfl (Nat.le_of_ble_eq_true rfl) (loc := [some (.ref a0), some (.int a1), none]) rfl ?_
  unfold P_L_ranked
  refine y_iconst (v := (J 0)) d_L_ranked_0 rfl ?_
  refine y_istore_n (loc2 := [some (.ref a0), some (.int a1), some (.int (J 0))]) d_L_ranked_1 (Nat.le_of_ble_eq_true rfl) rfl rfl ?_
  refine S_L_ranked_2 hfl hD (fun h8 => ?_) N h (J 0)
  refine y_null d_L_ranked_37 ?_
  exact y_retN0 d_L_ranked_38 rfl (Or.inl ⟨_, rfl⟩)
noncomputable def B_L_takenMetres_4 (Θ : mW) (N : Nat) (K42 : mH → Int32 → Option (Int32 × mH)) (f0_ : Nat) (rc : mH → Int32 → Int32 → Option (Int32 × mH)) (h : mH) (v1_ : Int32) (v2_ : Int32) : Option (Int32 × mH) :=
  (bo (rI Θ h 2 f0_ 1) (fun v1 => (if v1 ≤ v2_ then (K42 h v1_) else (bo (rA Θ h 2 f0_ 0) (fun v2 => (bo (aRQ Θ h 5 v2 v2_) (fun v3 => (gO Θ h 3 v3 (bc (P_S_isDocked Θ N h v3) (fun v5 h4 => (jn (fun (h7 : mH) (u8 : Int32) => (rc h7 u8 (v2_ + (J 1)))) (fun j6 => (if v5 = 0 then (j6 h4 v1_) else (bo (rA Θ h4 2 f0_ 0) (fun v9 => (bo (aRQ Θ h4 5 v9 v2_) (fun v10 => (bo (rI Θ h4 3 v10 1) (fun v11 => (j6 h4 (v1_ + v11)))))))))))))))))))))
noncomputable def P_L_takenMetres_4 (Θ : mW) (N : Nat) (K42 : mH → Int32 → Option (Int32 × mH)) (f0_ : Nat) : Nat → mH → Int32 → Int32 → Option (Int32 × mH) :=
  lp (fun _ _ _ => none) (B_L_takenMetres_4 Θ N K42 f0_)
noncomputable def P_L_takenMetres (Θ : mW) (N : Nat) (h : mH) (a0 : Nat) : Option (Int32 × mH) :=
  (P_L_takenMetres_4 Θ N (fun h12 u13 => (some (u13, h12))) a0 N h (J 0) (J 0))
theorem SB_L_takenMetres_4 (hfl : HF l Θ) (hD : 2 ≤ d) {K42 : mH → Int32 → Option (Int32 × mH)} {f0_ : Nat}  (hK42 : ∀ (h : mH) (v1_ : Int32), mY l Θ d M_L_takenMetres 42 [none, some (.int v1_), none] [] h (tR vI) (K42 h v1_)) (rc : mH → Int32 → Int32 → Option (Int32 × mH)) (ih : ∀ (h : mH) (v1_ : Int32) (v2_ : Int32), mY l Θ d M_L_takenMetres 4 [some (.ref f0_), some (.int v1_), some (.int v2_)] [] h (tR vI) (rc h v1_ v2_)) : ∀ (h : mH) (v1_ : Int32) (v2_ : Int32), mY l Θ d M_L_takenMetres 4 [some (.ref f0_), some (.int v1_), some (.int v2_)] [] h (tR vI) (B_L_takenMetres_4 Θ N K42 f0_ rc h v1_ v2_) := by
  intro h v1_ v2_
  unfold B_L_takenMetres_4
  refine y_iload_n d_L_takenMetres_4 rfl ?_
  refine y_aload_n d_L_takenMetres_5 rfl ?_
  refine y_getI d_L_takenMetres_6 f_L_15 (fun v1 => ?_)
  refine y_icmp_ge (tgt := 42) d_L_takenMetres_9 (by decide) ?_ ?_
  · exact y_wk (loc2 := [none, some (.int v1_), none]) ⟨rfl, trivial⟩ (hK42 h v1_)
  · refine y_aload_n d_L_takenMetres_12 rfl ?_
    refine y_getA d_L_takenMetres_13 f_L_11 (fun v2 => ?_)
    refine y_iload_n d_L_takenMetres_16 rfl ?_
    refine y_qald (Or.inl rfl) d_L_takenMetres_17 (fun v3 => ?_)
    refine y_gO (fun fs1 g1 => y_cI (c_vi (rest := []) d_L_takenMetres_18 k_S_isDocked s_L_41 (Or.inl ⟨_, _, _, g1, rfl, rfl⟩) rfl rfl (Nat.le_of_ble_eq_true rfl) (Nat.le_trans (Nat.le_of_ble_eq_true rfl : 1 + 1 ≤ 2) hD) (S_S_isDocked hfl (Nat.le_refl _) h v3)) (fun v5 h4 => ?_))
    refine y_jn (C := fun (j9 : mH → Int32 → Option (Int32 × mH)) => ∀ (h7 : mH) (u8 : Int32), mY l Θ d M_L_takenMetres 36 [some (.ref f0_), some (.int u8), some (.int v2_)] [] h7 (tR vI) (j9 h7 u8)) (fun h7 u8 => ?_) (fun j6 Hj6 => ?_)
    · refine y_iinc (v := (v2_ + (J 1))) (loc2 := [some (.ref f0_), some (.int u8), some (.int (v2_ + (J 1)))]) d_L_takenMetres_36 rfl rfl (Nat.le_of_ble_eq_true rfl) rfl rfl ?_
      refine y_goto (tgt := 4) d_L_takenMetres_39 (by decide) ?_
      exact ih h7 u8 (v2_ + (J 1))
    · refine y_if_eq (tgt := 36) d_L_takenMetres_21 (by decide) ?_ ?_
      · exact Hj6 h4 v1_
      · refine y_iload_n d_L_takenMetres_24 rfl ?_
        refine y_aload_n d_L_takenMetres_25 rfl ?_
        refine y_getA d_L_takenMetres_26 f_L_11 (fun v9 => ?_)
        refine y_iload_n d_L_takenMetres_29 rfl ?_
        refine y_qald (Or.inl rfl) d_L_takenMetres_30 (fun v10 => ?_)
        refine y_getI d_L_takenMetres_31 f_L_72 (fun v11 => ?_)
        refine y_iadd (v := (v1_ + v11)) d_L_takenMetres_34 rfl ?_
        refine y_istore_n (loc2 := [some (.ref f0_), some (.int (v1_ + v11)), some (.int v2_)]) d_L_takenMetres_35 (Nat.le_of_ble_eq_true rfl) rfl rfl ?_
        exact Hj6 h4 (v1_ + v11)
theorem S_L_takenMetres_4 (hfl : HF l Θ) (hD : 2 ≤ d) {K42 : mH → Int32 → Option (Int32 × mH)} {f0_ : Nat}  (hK42 : ∀ (h : mH) (v1_ : Int32), mY l Θ d M_L_takenMetres 42 [none, some (.int v1_), none] [] h (tR vI) (K42 h v1_)) : ∀ (n : Nat) (h : mH) (v1_ : Int32) (v2_ : Int32), mY l Θ d M_L_takenMetres 4 [some (.ref f0_), some (.int v1_), some (.int v2_)] [] h (tR vI) (P_L_takenMetres_4 Θ N K42 f0_ n h v1_ v2_) :=
  fun n => lp_all (C := fun (rc : mH → Int32 → Int32 → Option (Int32 × mH)) => ∀ (h : mH) (v1_ : Int32) (v2_ : Int32), mY l Θ d M_L_takenMetres 4 [some (.ref f0_), some (.int v1_), some (.int v2_)] [] h (tR vI) (rc h v1_ v2_)) (fun _ _ _ => y_none) (fun rc ih => SB_L_takenMetres_4 hfl hD hK42 rc ih) n
theorem S_L_takenMetres (hfl : HF l Θ) (hD : 2 ≤ d) (h : mH) (a0 : Nat) : mMs l Θ d M_L_takenMetres [.ref a0] h (tR vI) (P_L_takenMetres Θ N h a0) := by
  refine mMs.of hfl (by decide +kernel) rfl (Nat.le_of_ble_eq_true rfl) (loc := [some (.ref a0), none, none]) rfl ?_
  unfold P_L_takenMetres
  refine y_iconst (v := (J 0)) d_L_takenMetres_0 rfl ?_
  refine y_istore_n (loc2 := [some (.ref a0), some (.int (J 0)), none]) d_L_takenMetres_1 (Nat.le_of_ble_eq_true rfl) rfl rfl ?_
  refine y_iconst (v := (J 0)) d_L_takenMetres_2 rfl ?_
  refine y_istore_n (loc2 := [some (.ref a0), some (.int (J 0)), some (.int (J 0))]) d_L_takenMetres_3 (Nat.le_of_ble_eq_true rfl) rfl rfl ?_
  refine S_L_takenMetres_4 hfl hD (fun h12 u13 => ?_) N h (J 0) (J 0)
  refine y_iload_n d_L_takenMetres_42 rfl ?_
  exact y_retI d_L_takenMetres_43 rfl rfl
noncomputable def B_L_billSum_4 (Θ : mW) (N : Nat) (K30 : mH → Int32 → Option (Int32 × mH)) (f0_ : Nat) (rc : mH → Int32 → Int32 → Option (Int32 × mH)) (h : mH) (v1_ : Int32) (v2_ : Int32) : Option (Int32 × mH) :=
  (bo (rI Θ h 2 f0_ 1) (fun v1 => (if v1 ≤ v2_ then (K30 h v1_) else (bo (rA Θ h 2 f0_ 0) (fun v2 => (bo (aRQ Θ h 5 v2 v2_) (fun v3 => (bo (rI Θ h 3 v3 6) (fun v4 => (rc h (v1_ + v4) (v2_ + (J 1))))))))))))
noncomputable def P_L_billSum_4 (Θ : mW) (N : Nat) (K30 : mH → Int32 → Option (Int32 × mH)) (f0_ : Nat) : Nat → mH → Int32 → Int32 → Option (Int32 × mH) :=
  lp (fun _ _ _ => none) (B_L_billSum_4 Θ N K30 f0_)
noncomputable def P_L_billSum (Θ : mW) (N : Nat) (h : mH) (a0 : Nat) : Option (Int32 × mH) :=
  (P_L_billSum_4 Θ N (fun h5 u6 => (some (u6, h5))) a0 N h (J 0) (J 0))
theorem SB_L_billSum_4 (hfl : HF l Θ) (hD : 1 ≤ d) {K30 : mH → Int32 → Option (Int32 × mH)} {f0_ : Nat}  (hK30 : ∀ (h : mH) (v1_ : Int32), mY l Θ d M_L_billSum 30 [none, some (.int v1_), none] [] h (tR vI) (K30 h v1_)) (rc : mH → Int32 → Int32 → Option (Int32 × mH)) (ih : ∀ (h : mH) (v1_ : Int32) (v2_ : Int32), mY l Θ d M_L_billSum 4 [some (.ref f0_), some (.int v1_), some (.int v2_)] [] h (tR vI) (rc h v1_ v2_)) : ∀ (h : mH) (v1_ : Int32) (v2_ : Int32), mY l Θ d M_L_billSum 4 [some (.ref f0_), some (.int v1_), some (.int v2_)] [] h (tR vI) (B_L_billSum_4 Θ N K30 f0_ rc h v1_ v2_) := by
  intro h v1_ v2_
  unfold B_L_billSum_4
  refine y_iload_n d_L_billSum_4 rfl ?_
  refine y_aload_n d_L_billSum_5 rfl ?_
  refine y_getI d_L_billSum_6 f_L_15 (fun v1 => ?_)
  refine y_icmp_ge (tgt := 30) d_L_billSum_9 (by decide) ?_ ?_
  · exact y_wk (loc2 := [none, some (.int v1_), none]) ⟨rfl, trivial⟩ (hK30 h v1_)
  · refine y_iload_n d_L_billSum_12 rfl ?_
    refine y_aload_n d_L_billSum_13 rfl ?_
    refine y_getA d_L_billSum_14 f_L_11 (fun v2 => ?_)
    refine y_iload_n d_L_billSum_17 rfl ?_
    refine y_qald (Or.inl rfl) d_L_billSum_18 (fun v3 => ?_)
    refine y_getI d_L_billSum_19 f_L_61 (fun v4 => ?_)
    refine y_iadd (v := (v1_ + v4)) d_L_billSum_22 rfl ?_
    refine y_istore_n (loc2 := [some (.ref f0_), some (.int (v1_ + v4)), some (.int v2_)]) d_L_billSum_23 (Nat.le_of_ble_eq_true rfl) rfl rfl ?_
    refine y_iinc (v := (v2_ + (J 1))) (loc2 := [some (.ref f0_), some (.int (v1_ + v4)), some (.int (v2_ + (J 1)))]) d_L_billSum_24 rfl rfl (Nat.le_of_ble_eq_true rfl) rfl rfl ?_
    refine y_goto (tgt := 4) d_L_billSum_27 (by decide) ?_
    exact ih h (v1_ + v4) (v2_ + (J 1))
theorem S_L_billSum_4 (hfl : HF l Θ) (hD : 1 ≤ d) {K30 : mH → Int32 → Option (Int32 × mH)} {f0_ : Nat}  (hK30 : ∀ (h : mH) (v1_ : Int32), mY l Θ d M_L_billSum 30 [none, some (.int v1_), none] [] h (tR vI) (K30 h v1_)) : ∀ (n : Nat) (h : mH) (v1_ : Int32) (v2_ : Int32), mY l Θ d M_L_billSum 4 [some (.ref f0_), some (.int v1_), some (.int v2_)] [] h (tR vI) (P_L_billSum_4 Θ N K30 f0_ n h v1_ v2_) :=
  fun n => lp_all (C := fun (rc : mH → Int32 → Int32 → Option (Int32 × mH)) => ∀ (h : mH) (v1_ : Int32) (v2_ : Int32), mY l Θ d M_L_billSum 4 [some (.ref f0_), some (.int v1_), some (.int v2_)] [] h (tR vI) (rc h v1_ v2_)) (fun _ _ _ => y_none) (fun rc ih => SB_L_billSum_4 hfl hD hK30 rc ih) n
theorem S_L_billSum (hfl : HF l Θ) (hD : 1 ≤ d) (h : mH) (a0 : Nat) : mMs l Θ d M_L_billSum [.ref a0] h (tR vI) (P_L_billSum Θ N h a0) := by
  refine mMs.of hfl (by decide +kernel) rfl (Nat.le_of_ble_eq_true rfl) (loc := [some (.ref a0), none, none]) rfl ?_
  unfold P_L_billSum
  refine y_iconst (v := (J 0)) d_L_billSum_0 rfl ?_
  refine y_istore_n (loc2 := [some (.ref a0), some (.int (J 0)), none]) d_L_billSum_1 (Nat.le_of_ble_eq_true rfl) rfl rfl ?_
  refine y_iconst (v := (J 0)) d_L_billSum_2 rfl ?_
  refine y_istore_n (loc2 := [some (.ref a0), some (.int (J 0)), some (.int (J 0))]) d_L_billSum_3 (Nat.le_of_ble_eq_true rfl) rfl rfl ?_
  refine S_L_billSum_4 hfl hD (fun h5 u6 => ?_) N h (J 0) (J 0)
  refine y_iload_n d_L_billSum_30 rfl ?_
  exact y_retI d_L_billSum_31 rfl rfl
noncomputable def B_L_dirtSum_4 (Θ : mW) (N : Nat) (K30 : mH → Int32 → Option (Int32 × mH)) (f0_ : Nat) (rc : mH → Int32 → Int32 → Option (Int32 × mH)) (h : mH) (v1_ : Int32) (v2_ : Int32) : Option (Int32 × mH) :=
  (bo (rI Θ h 2 f0_ 1) (fun v1 => (if v1 ≤ v2_ then (K30 h v1_) else (bo (rA Θ h 2 f0_ 0) (fun v2 => (bo (aRQ Θ h 5 v2 v2_) (fun v3 => (bo (rI Θ h 3 v3 3) (fun v4 => (rc h (v1_ + v4) (v2_ + (J 1))))))))))))
noncomputable def P_L_dirtSum_4 (Θ : mW) (N : Nat) (K30 : mH → Int32 → Option (Int32 × mH)) (f0_ : Nat) : Nat → mH → Int32 → Int32 → Option (Int32 × mH) :=
  lp (fun _ _ _ => none) (B_L_dirtSum_4 Θ N K30 f0_)
noncomputable def P_L_dirtSum (Θ : mW) (N : Nat) (h : mH) (a0 : Nat) : Option (Int32 × mH) :=
  (P_L_dirtSum_4 Θ N (fun h5 u6 => (some (u6, h5))) a0 N h (J 0) (J 0))
theorem SB_L_dirtSum_4 (hfl : HF l Θ) (hD : 1 ≤ d) {K30 : mH → Int32 → Option (Int32 × mH)} {f0_ : Nat}  (hK30 : ∀ (h : mH) (v1_ : Int32), mY l Θ d M_L_dirtSum 30 [none, some (.int v1_), none] [] h (tR vI) (K30 h v1_)) (rc : mH → Int32 → Int32 → Option (Int32 × mH)) (ih : ∀ (h : mH) (v1_ : Int32) (v2_ : Int32), mY l Θ d M_L_dirtSum 4 [some (.ref f0_), some (.int v1_), some (.int v2_)] [] h (tR vI) (rc h v1_ v2_)) : ∀ (h : mH) (v1_ : Int32) (v2_ : Int32), mY l Θ d M_L_dirtSum 4 [some (.ref f0_), some (.int v1_), some (.int v2_)] [] h (tR vI) (B_L_dirtSum_4 Θ N K30 f0_ rc h v1_ v2_) := by
  intro h v1_ v2_
  unfold B_L_dirtSum_4
  refine y_iload_n d_L_dirtSum_4 rfl ?_
  refine y_aload_n d_L_dirtSum_5 rfl ?_
  refine y_getI d_L_dirtSum_6 f_L_15 (fun v1 => ?_)
  refine y_icmp_ge (tgt := 30) d_L_dirtSum_9 (by decide) ?_ ?_
  · exact y_wk (loc2 := [none, some (.int v1_), none]) ⟨rfl, trivial⟩ (hK30 h v1_)
  · refine y_iload_n d_L_dirtSum_12 rfl ?_
    refine y_aload_n d_L_dirtSum_13 rfl ?_
    refine y_getA d_L_dirtSum_14 f_L_11 (fun v2 => ?_)
    refine y_iload_n d_L_dirtSum_17 rfl ?_
    refine y_qald (Or.inl rfl) d_L_dirtSum_18 (fun v3 => ?_)
    refine y_getI d_L_dirtSum_19 f_L_69 (fun v4 => ?_)
    refine y_iadd (v := (v1_ + v4)) d_L_dirtSum_22 rfl ?_
    refine y_istore_n (loc2 := [some (.ref f0_), some (.int (v1_ + v4)), some (.int v2_)]) d_L_dirtSum_23 (Nat.le_of_ble_eq_true rfl) rfl rfl ?_
    refine y_iinc (v := (v2_ + (J 1))) (loc2 := [some (.ref f0_), some (.int (v1_ + v4)), some (.int (v2_ + (J 1)))]) d_L_dirtSum_24 rfl rfl (Nat.le_of_ble_eq_true rfl) rfl rfl ?_
    refine y_goto (tgt := 4) d_L_dirtSum_27 (by decide) ?_
    exact ih h (v1_ + v4) (v2_ + (J 1))
theorem S_L_dirtSum_4 (hfl : HF l Θ) (hD : 1 ≤ d) {K30 : mH → Int32 → Option (Int32 × mH)} {f0_ : Nat}  (hK30 : ∀ (h : mH) (v1_ : Int32), mY l Θ d M_L_dirtSum 30 [none, some (.int v1_), none] [] h (tR vI) (K30 h v1_)) : ∀ (n : Nat) (h : mH) (v1_ : Int32) (v2_ : Int32), mY l Θ d M_L_dirtSum 4 [some (.ref f0_), some (.int v1_), some (.int v2_)] [] h (tR vI) (P_L_dirtSum_4 Θ N K30 f0_ n h v1_ v2_) :=
  fun n => lp_all (C := fun (rc : mH → Int32 → Int32 → Option (Int32 × mH)) => ∀ (h : mH) (v1_ : Int32) (v2_ : Int32), mY l Θ d M_L_dirtSum 4 [some (.ref f0_), some (.int v1_), some (.int v2_)] [] h (tR vI) (rc h v1_ v2_)) (fun _ _ _ => y_none) (fun rc ih => SB_L_dirtSum_4 hfl hD hK30 rc ih) n
theorem S_L_dirtSum (hfl : HF l Θ) (hD : 1 ≤ d) (h : mH) (a0 : Nat) : mMs l Θ d M_L_dirtSum [.ref a0] h (tR vI) (P_L_dirtSum Θ N h a0) := by
  refine mMs.of hfl (by decide +kernel) rfl (Nat.le_of_ble_eq_true rfl) (loc := [some (.ref a0), none, none]) rfl ?_
  unfold P_L_dirtSum
  refine y_iconst (v := (J 0)) d_L_dirtSum_0 rfl ?_
  refine y_istore_n (loc2 := [some (.ref a0), some (.int (J 0)), none]) d_L_dirtSum_1 (Nat.le_of_ble_eq_true rfl) rfl rfl ?_
  refine y_iconst (v := (J 0)) d_L_dirtSum_2 rfl ?_
  refine y_istore_n (loc2 := [some (.ref a0), some (.int (J 0)), some (.int (J 0))]) d_L_dirtSum_3 (Nat.le_of_ble_eq_true rfl) rfl rfl ?_
  refine S_L_dirtSum_4 hfl hD (fun h5 u6 => ?_) N h (J 0) (J 0)
  refine y_iload_n d_L_dirtSum_30 rfl ?_
  exact y_retI d_L_dirtSum_31 rfl rfl
noncomputable def B_L_gapsAgree_2 (Θ : mW) (N : Nat) (K29 : mH → Option (Int32 × mH)) (f0_ : Nat) (rc : mH → Int32 → Option (Int32 × mH)) (h : mH) (v1_ : Int32) : Option (Int32 × mH) :=
  (if (J 60) < v1_ then (K29 h) else (gO Θ h 2 f0_ (bc (P_L_gapByPositions Θ N h f0_ v1_) (fun v2 h1 => (gO Θ h1 2 f0_ (bc (P_L_gapByShips Θ N h1 f0_ v1_) (fun v4 h3 => (if v2 = v4 then (rc h3 (v1_ + (J 1))) else (some ((J 0), h3))))))))))
noncomputable def P_L_gapsAgree_2 (Θ : mW) (N : Nat) (K29 : mH → Option (Int32 × mH)) (f0_ : Nat) : Nat → mH → Int32 → Option (Int32 × mH) :=
  lp (fun _ _ => none) (B_L_gapsAgree_2 Θ N K29 f0_)
noncomputable def P_L_gapsAgree (Θ : mW) (N : Nat) (h : mH) (a0 : Nat) : Option (Int32 × mH) :=
  (P_L_gapsAgree_2 Θ N (fun h5 => (some ((J 1), h5))) a0 N h (J 1))
theorem SB_L_gapsAgree_2 (hfl : HF l Θ) (hD : 4 ≤ d) {K29 : mH → Option (Int32 × mH)} {f0_ : Nat}  (hK29 : ∀ (h : mH), mY l Θ d M_L_gapsAgree 29 [none, none] [] h (tR vI) (K29 h)) (rc : mH → Int32 → Option (Int32 × mH)) (ih : ∀ (h : mH) (v1_ : Int32), mY l Θ d M_L_gapsAgree 2 [some (.ref f0_), some (.int v1_)] [] h (tR vI) (rc h v1_)) : ∀ (h : mH) (v1_ : Int32), mY l Θ d M_L_gapsAgree 2 [some (.ref f0_), some (.int v1_)] [] h (tR vI) (B_L_gapsAgree_2 Θ N K29 f0_ rc h v1_) := by
  intro h v1_
  unfold B_L_gapsAgree_2
  refine y_iload_n d_L_gapsAgree_2 rfl ?_
  refine y_bipush (v := (J 60)) d_L_gapsAgree_3 (by decide +kernel) ?_
  refine y_icmp_gt (tgt := 29) d_L_gapsAgree_5 (by decide) ?_ ?_
  · exact y_wk (loc2 := [none, none]) trivial (hK29 h)
  · refine y_aload_n d_L_gapsAgree_8 rfl ?_
    refine y_iload_n d_L_gapsAgree_9 rfl ?_
    refine y_gO (fun fs1 g1 => y_cI (c_vi (rest := []) d_L_gapsAgree_10 k_L_gapByPositions s_L_100 (Or.inl ⟨_, _, _, g1, rfl, rfl⟩) rfl rfl (Nat.le_of_ble_eq_true rfl) (Nat.le_trans (Nat.le_of_ble_eq_true rfl : 3 + 1 ≤ 4) hD) (S_L_gapByPositions hfl (Nat.le_refl _) h f0_ v1_)) (fun v2 h1 => ?_))
    refine y_aload_n d_L_gapsAgree_13 rfl ?_
    refine y_iload_n d_L_gapsAgree_14 rfl ?_
    refine y_gO (fun fs1 g1 => y_cI (c_vi (rest := [.int v2]) d_L_gapsAgree_15 k_L_gapByShips s_L_104 (Or.inl ⟨_, _, _, g1, rfl, rfl⟩) rfl rfl (Nat.le_of_ble_eq_true rfl) (Nat.le_trans (Nat.le_of_ble_eq_true rfl : 3 + 1 ≤ 4) hD) (S_L_gapByShips hfl (Nat.le_refl _) h1 f0_ v1_)) (fun v4 h3 => ?_))
    refine y_icmp_eq (tgt := 23) d_L_gapsAgree_18 (by decide) ?_ ?_
    · refine y_iinc (v := (v1_ + (J 1))) (loc2 := [some (.ref f0_), some (.int (v1_ + (J 1)))]) d_L_gapsAgree_23 rfl rfl (Nat.le_of_ble_eq_true rfl) rfl rfl ?_
      refine y_goto (tgt := 2) d_L_gapsAgree_26 (by decide) ?_
      exact ih h3 (v1_ + (J 1))
    · refine y_iconst (v := (J 0)) d_L_gapsAgree_21 rfl ?_
      exact y_retI d_L_gapsAgree_22 rfl (by decide +kernel)
theorem S_L_gapsAgree_2 (hfl : HF l Θ) (hD : 4 ≤ d) {K29 : mH → Option (Int32 × mH)} {f0_ : Nat}  (hK29 : ∀ (h : mH), mY l Θ d M_L_gapsAgree 29 [none, none] [] h (tR vI) (K29 h)) : ∀ (n : Nat) (h : mH) (v1_ : Int32), mY l Θ d M_L_gapsAgree 2 [some (.ref f0_), some (.int v1_)] [] h (tR vI) (P_L_gapsAgree_2 Θ N K29 f0_ n h v1_) :=
  fun n => lp_all (C := fun (rc : mH → Int32 → Option (Int32 × mH)) => ∀ (h : mH) (v1_ : Int32), mY l Θ d M_L_gapsAgree 2 [some (.ref f0_), some (.int v1_)] [] h (tR vI) (rc h v1_)) (fun _ _ => y_none) (fun rc ih => SB_L_gapsAgree_2 hfl hD hK29 rc ih) n
theorem S_L_gapsAgree (hfl : HF l Θ) (hD : 4 ≤ d) (h : mH) (a0 : Nat) : mMs l Θ d M_L_gapsAgree [.ref a0] h (tR vI) (P_L_gapsAgree Θ N h a0) := by
  refine mMs.of hfl (by decide +kernel) rfl (Nat.le_of_ble_eq_true rfl) (loc := [some (.ref a0), none]) rfl ?_
  unfold P_L_gapsAgree
  refine y_iconst (v := (J 1)) d_L_gapsAgree_0 rfl ?_
  refine y_istore_n (loc2 := [some (.ref a0), some (.int (J 1))]) d_L_gapsAgree_1 (Nat.le_of_ble_eq_true rfl) rfl rfl ?_
  refine S_L_gapsAgree_2 hfl hD (fun h5 => ?_) N h (J 1)
  refine y_iconst (v := (J 1)) d_L_gapsAgree_29 rfl ?_
  exact y_retI d_L_gapsAgree_30 rfl (by decide +kernel)
noncomputable def B_L_hasOverlap_14 (Θ : mW) (N : Nat) (K72 : mH → Option (Int32 × mH)) (f0_ : Nat) (f1_ : Int32) (rc : mH → Int32 → Option (Int32 × mH)) (h : mH) (v2_ : Int32) : Option (Int32 × mH) :=
  (bo (rI Θ h 2 f0_ 1) (fun v2 => (if v2 ≤ v2_ then (K72 h) else (bo (rA Θ h 2 f0_ 0) (fun v3 => (bo (aRQ Θ h 5 v3 f1_) (fun v4 => (gO Θ h 3 v4 (bc (P_S_isDocked Θ N h v4) (fun v6 h5 => (jn (fun (h8 : mH) => (rc h8 (v2_ + (J 1)))) (fun j7 => (if v6 = 0 then (j7 h5) else (bo (rA Θ h5 2 f0_ 0) (fun v9 => (bo (aRQ Θ h5 5 v9 v2_) (fun v10 => (bo (rA Θ h5 2 f0_ 0) (fun v11 => (bo (aRQ Θ h5 5 v11 f1_) (fun v12 => (bo (rI Θ h5 3 v12 7) (fun v13 => (bo (rA Θ h5 2 f0_ 0) (fun v14 => (bo (aRQ Θ h5 5 v14 f1_) (fun v15 => (bo (rI Θ h5 3 v15 1) (fun v16 => (gO Θ h5 3 v10 (bc (P_S_overlaps Θ N h5 v10 v13 v16) (fun v18 h17 => (if v18 = 0 then (j7 h17) else (some ((J 1), h17)))))))))))))))))))))))))))))))))))
noncomputable def P_L_hasOverlap_14 (Θ : mW) (N : Nat) (K72 : mH → Option (Int32 × mH)) (f0_ : Nat) (f1_ : Int32) : Nat → mH → Int32 → Option (Int32 × mH) :=
  lp (fun _ _ => none) (B_L_hasOverlap_14 Θ N K72 f0_ f1_)
noncomputable def B_L_hasOverlap_2 (Θ : mW) (N : Nat) (K78 : mH → Option (Int32 × mH)) (f0_ : Nat) (rc : mH → Int32 → Option (Int32 × mH)) (h : mH) (v1_ : Int32) : Option (Int32 × mH) :=
  (bo (rI Θ h 2 f0_ 1) (fun v1 => (if v1 ≤ v1_ then (K78 h) else (P_L_hasOverlap_14 Θ N (fun h19 => (rc h19 (v1_ + (J 1)))) f0_ v1_ N h (v1_ + (J 1))))))
noncomputable def P_L_hasOverlap_2 (Θ : mW) (N : Nat) (K78 : mH → Option (Int32 × mH)) (f0_ : Nat) : Nat → mH → Int32 → Option (Int32 × mH) :=
  lp (fun _ _ => none) (B_L_hasOverlap_2 Θ N K78 f0_)
noncomputable def P_L_hasOverlap (Θ : mW) (N : Nat) (h : mH) (a0 : Nat) : Option (Int32 × mH) :=
  (P_L_hasOverlap_2 Θ N (fun h20 => (some ((J 0), h20))) a0 N h (J 0))
theorem SB_L_hasOverlap_14 (hfl : HF l Θ) (hD : 2 ≤ d) {K72 : mH → Option (Int32 × mH)} {f0_ : Nat} {f1_ : Int32}  (hK72 : ∀ (h : mH), mY l Θ d M_L_hasOverlap 72 [some (.ref f0_), some (.int f1_), none] [] h (tR vI) (K72 h)) (rc : mH → Int32 → Option (Int32 × mH)) (ih : ∀ (h : mH) (v2_ : Int32), mY l Θ d M_L_hasOverlap 14 [some (.ref f0_), some (.int f1_), some (.int v2_)] [] h (tR vI) (rc h v2_)) : ∀ (h : mH) (v2_ : Int32), mY l Θ d M_L_hasOverlap 14 [some (.ref f0_), some (.int f1_), some (.int v2_)] [] h (tR vI) (B_L_hasOverlap_14 Θ N K72 f0_ f1_ rc h v2_) := by
  intro h v2_
  unfold B_L_hasOverlap_14
  refine y_iload_n d_L_hasOverlap_14 rfl ?_
  refine y_aload_n d_L_hasOverlap_15 rfl ?_
  refine y_getI d_L_hasOverlap_16 f_L_15 (fun v2 => ?_)
  refine y_icmp_ge (tgt := 72) d_L_hasOverlap_19 (by decide) ?_ ?_
  · exact y_wk (loc2 := [some (.ref f0_), some (.int f1_), none]) ⟨rfl, ⟨rfl, trivial⟩⟩ (hK72 h)
  · refine y_aload_n d_L_hasOverlap_22 rfl ?_
    refine y_getA d_L_hasOverlap_23 f_L_11 (fun v3 => ?_)
    refine y_iload_n d_L_hasOverlap_26 rfl ?_
    refine y_qald (Or.inl rfl) d_L_hasOverlap_27 (fun v4 => ?_)
    refine y_gO (fun fs1 g1 => y_cI (c_vi (rest := []) d_L_hasOverlap_28 k_S_isDocked s_L_41 (Or.inl ⟨_, _, _, g1, rfl, rfl⟩) rfl rfl (Nat.le_of_ble_eq_true rfl) (Nat.le_trans (Nat.le_of_ble_eq_true rfl : 1 + 1 ≤ 2) hD) (S_S_isDocked hfl (Nat.le_refl _) h v4)) (fun v6 h5 => ?_))
    refine y_jn (C := fun (j9 : mH → Option (Int32 × mH)) => ∀ (h8 : mH), mY l Θ d M_L_hasOverlap 66 [some (.ref f0_), some (.int f1_), some (.int v2_)] [] h8 (tR vI) (j9 h8)) (fun h8 => ?_) (fun j7 Hj7 => ?_)
    · refine y_iinc (v := (v2_ + (J 1))) (loc2 := [some (.ref f0_), some (.int f1_), some (.int (v2_ + (J 1)))]) d_L_hasOverlap_66 rfl rfl (Nat.le_of_ble_eq_true rfl) rfl rfl ?_
      refine y_goto (tgt := 14) d_L_hasOverlap_69 (by decide) ?_
      exact ih h8 (v2_ + (J 1))
    · refine y_if_eq (tgt := 66) d_L_hasOverlap_31 (by decide) ?_ ?_
      · exact Hj7 h5
      · refine y_aload_n d_L_hasOverlap_34 rfl ?_
        refine y_getA d_L_hasOverlap_35 f_L_11 (fun v9 => ?_)
        refine y_iload_n d_L_hasOverlap_38 rfl ?_
        refine y_qald (Or.inl rfl) d_L_hasOverlap_39 (fun v10 => ?_)
        refine y_aload_n d_L_hasOverlap_40 rfl ?_
        refine y_getA d_L_hasOverlap_41 f_L_11 (fun v11 => ?_)
        refine y_iload_n d_L_hasOverlap_44 rfl ?_
        refine y_qald (Or.inl rfl) d_L_hasOverlap_45 (fun v12 => ?_)
        refine y_getI d_L_hasOverlap_46 f_L_87 (fun v13 => ?_)
        refine y_aload_n d_L_hasOverlap_49 rfl ?_
        refine y_getA d_L_hasOverlap_50 f_L_11 (fun v14 => ?_)
        refine y_iload_n d_L_hasOverlap_53 rfl ?_
        refine y_qald (Or.inl rfl) d_L_hasOverlap_54 (fun v15 => ?_)
        refine y_getI d_L_hasOverlap_55 f_L_72 (fun v16 => ?_)
        refine y_gO (fun fs1 g1 => y_cI (c_vi (rest := []) d_L_hasOverlap_58 k_S_overlaps s_L_83 (Or.inl ⟨_, _, _, g1, rfl, rfl⟩) rfl rfl (Nat.le_of_ble_eq_true rfl) (Nat.le_trans (Nat.le_of_ble_eq_true rfl : 1 + 1 ≤ 2) hD) (S_S_overlaps hfl (Nat.le_refl _) h5 v10 v13 v16)) (fun v18 h17 => ?_))
        refine y_if_eq (tgt := 66) d_L_hasOverlap_61 (by decide) ?_ ?_
        · exact Hj7 h17
        · refine y_iconst (v := (J 1)) d_L_hasOverlap_64 rfl ?_
          exact y_retI d_L_hasOverlap_65 rfl (by decide +kernel)
theorem S_L_hasOverlap_14 (hfl : HF l Θ) (hD : 2 ≤ d) {K72 : mH → Option (Int32 × mH)} {f0_ : Nat} {f1_ : Int32}  (hK72 : ∀ (h : mH), mY l Θ d M_L_hasOverlap 72 [some (.ref f0_), some (.int f1_), none] [] h (tR vI) (K72 h)) : ∀ (n : Nat) (h : mH) (v2_ : Int32), mY l Θ d M_L_hasOverlap 14 [some (.ref f0_), some (.int f1_), some (.int v2_)] [] h (tR vI) (P_L_hasOverlap_14 Θ N K72 f0_ f1_ n h v2_) :=
  fun n => lp_all (C := fun (rc : mH → Int32 → Option (Int32 × mH)) => ∀ (h : mH) (v2_ : Int32), mY l Θ d M_L_hasOverlap 14 [some (.ref f0_), some (.int f1_), some (.int v2_)] [] h (tR vI) (rc h v2_)) (fun _ _ => y_none) (fun rc ih => SB_L_hasOverlap_14 hfl hD hK72 rc ih) n
theorem SB_L_hasOverlap_2 (hfl : HF l Θ) (hD : 2 ≤ d) {K78 : mH → Option (Int32 × mH)} {f0_ : Nat}  (hK78 : ∀ (h : mH), mY l Θ d M_L_hasOverlap 78 [none, none, none] [] h (tR vI) (K78 h)) (rc : mH → Int32 → Option (Int32 × mH)) (ih : ∀ (h : mH) (v1_ : Int32), mY l Θ d M_L_hasOverlap 2 [some (.ref f0_), some (.int v1_), none] [] h (tR vI) (rc h v1_)) : ∀ (h : mH) (v1_ : Int32), mY l Θ d M_L_hasOverlap 2 [some (.ref f0_), some (.int v1_), none] [] h (tR vI) (B_L_hasOverlap_2 Θ N K78 f0_ rc h v1_) := by
  intro h v1_
  unfold B_L_hasOverlap_2
  refine y_iload_n d_L_hasOverlap_2 rfl ?_
  refine y_aload_n d_L_hasOverlap_3 rfl ?_
  refine y_getI d_L_hasOverlap_4 f_L_15 (fun v1 => ?_)
  refine y_icmp_ge (tgt := 78) d_L_hasOverlap_7 (by decide) ?_ ?_
  · exact y_wk (loc2 := [none, none, none]) trivial (hK78 h)
  · refine y_iload_n d_L_hasOverlap_10 rfl ?_
    refine y_iconst (v := (J 1)) d_L_hasOverlap_11 rfl ?_
    refine y_iadd (v := (v1_ + (J 1))) d_L_hasOverlap_12 rfl ?_
    refine y_istore_n (loc2 := [some (.ref f0_), some (.int v1_), some (.int (v1_ + (J 1)))]) d_L_hasOverlap_13 (Nat.le_of_ble_eq_true rfl) rfl rfl ?_
    refine S_L_hasOverlap_14 hfl hD (fun h19 => ?_) N h (v1_ + (J 1))
    refine y_iinc (v := (v1_ + (J 1))) (loc2 := [some (.ref f0_), some (.int (v1_ + (J 1))), none]) d_L_hasOverlap_72 rfl rfl (Nat.le_of_ble_eq_true rfl) rfl rfl ?_
    refine y_goto (tgt := 2) d_L_hasOverlap_75 (by decide) ?_
    exact ih h19 (v1_ + (J 1))
theorem S_L_hasOverlap_2 (hfl : HF l Θ) (hD : 2 ≤ d) {K78 : mH → Option (Int32 × mH)} {f0_ : Nat}  (hK78 : ∀ (h : mH), mY l Θ d M_L_hasOverlap 78 [none, none, none] [] h (tR vI) (K78 h)) : ∀ (n : Nat) (h : mH) (v1_ : Int32), mY l Θ d M_L_hasOverlap 2 [some (.ref f0_), some (.int v1_), none] [] h (tR vI) (P_L_hasOverlap_2 Θ N K78 f0_ n h v1_) :=
  fun n => lp_all (C := fun (rc : mH → Int32 → Option (Int32 × mH)) => ∀ (h : mH) (v1_ : Int32), mY l Θ d M_L_hasOverlap 2 [some (.ref f0_), some (.int v1_), none] [] h (tR vI) (rc h v1_)) (fun _ _ => y_none) (fun rc ih => SB_L_hasOverlap_2 hfl hD hK78 rc ih) n
theorem S_L_hasOverlap (hfl : HF l Θ) (hD : 2 ≤ d) (h : mH) (a0 : Nat) : mMs l Θ d M_L_hasOverlap [.ref a0] h (tR vI) (P_L_hasOverlap Θ N h a0) := by
  refine mMs.of hfl (by decide +kernel) rfl (Nat.le_of_ble_eq_true rfl) (loc := [some (.ref a0), none, none]) rfl ?_
  unfold P_L_hasOverlap
  refine y_iconst (v := (J 0)) d_L_hasOverlap_0 rfl ?_
  refine y_istore_n (loc2 := [some (.ref a0), some (.int (J 0)), none]) d_L_hasOverlap_1 (Nat.le_of_ble_eq_true rfl) rfl rfl ?_
  refine S_L_hasOverlap_2 hfl hD (fun h20 => ?_) N h (J 0)
  refine y_iconst (v := (J 0)) d_L_hasOverlap_78 rfl ?_
  exact y_retI d_L_hasOverlap_79 rfl (by decide +kernel)
noncomputable def P_D_init (Θ : mW) (N : Nat) (h : mH) (a0 : Nat) : Option (Unit × mH) :=
  (al Θ h (oB 2 [.null, .int 0, .int 0]) (fun q1 h2 => (bc (P_L_init Θ N h2 q1) (fun v4 h3 => (bo (wF Θ h3 1 a0 0 (.ref q1)) (fun h5 => (al Θ h5 (oB 4 [.null, .int 0]) (fun q6 h7 => (bc (P_B_init Θ N h7 q6) (fun v9 h8 => (bo (wF Θ h8 1 a0 1 (.ref q6)) (fun h10 => (bo (wF Θ h10 1 a0 2 (.int (J 100))) (fun h11 => (bo (wF Θ h11 1 a0 3 (.int (J 1))) (fun h12 => (bo (wF Θ h12 1 a0 4 (.int (J 0))) (fun h13 => (bo (wF Θ h13 1 a0 5 (.int (J 3))) (fun h14 => (bo (wF Θ h14 1 a0 6 (.int (J 0))) (fun h15 => (bo (wF Θ h15 1 a0 7 (.int (J 0))) (fun h16 => (some ((), h16))))))))))))))))))))))))))
theorem S_D_init (hfl : HF l Θ) (hD : 3 ≤ d) (h : mH) (a0 : Nat) : mMs l Θ d M_D_init [.ref a0] h (tR vU) (P_D_init Θ N h a0) := by
  refine mMs.of hfl (by decide +kernel) rfl (Nat.le_of_ble_eq_true rfl) (loc := [some (.ref a0)]) rfl ?_
  unfold P_D_init
  refine y_aload_n d_D_init_0 rfl ?_
  refine y_objInit d_D_init_1 s_D_1 (mG (1, 42) (by decide +kernel)) (mG (1, 43) (by decide +kernel)) (Nat.le_of_ble_eq_true rfl) (Nat.le_trans (Nat.le_of_ble_eq_true rfl) hD) ?_
  refine y_aload_n d_D_init_4 rfl ?_
  refine y_new d_D_init_5 n_D_7 (fun q1 h2 _ _ => ?_)
  refine y_dup d_D_init_8 rfl ?_
  refine y_cU (c_in (rest := [.ref q1, .ref a0]) d_D_init_9 k_L_init s_D_9 rfl rfl (Nat.le_of_ble_eq_true rfl) (Nat.le_trans (Nat.le_of_ble_eq_true rfl : 2 + 1 ≤ 3) hD) (S_L_init hfl (Nat.le_refl _) h2 q1)) (fun v4 h3 => ?_)
  refine y_putF d_D_init_12 rfl pf_D_10 rfl rfl (fun h5 => ?_)
  refine y_aload_n d_D_init_15 rfl ?_
  refine y_new d_D_init_16 n_D_16 (fun q6 h7 _ _ => ?_)
  refine y_dup d_D_init_19 rfl ?_
  refine y_cU (c_in (rest := [.ref q6, .ref a0]) d_D_init_20 k_B_init s_D_18 rfl rfl (Nat.le_of_ble_eq_true rfl) (Nat.le_trans (Nat.le_of_ble_eq_true rfl : 1 + 1 ≤ 3) hD) (S_B_init hfl (Nat.le_refl _) h7 q6)) (fun v9 h8 => ?_)
  refine y_putF d_D_init_23 rfl pf_D_19 rfl rfl (fun h10 => ?_)
  refine y_aload_n d_D_init_26 rfl ?_
  refine y_bipush (v := (J 100)) d_D_init_27 (by decide +kernel) ?_
  refine y_put d_D_init_29 p_D_23 rfl rfl (fun h11 => ?_)
  refine y_aload_n d_D_init_32 rfl ?_
  refine y_iconst (v := (J 1)) d_D_init_33 rfl ?_
  refine y_put d_D_init_34 p_D_27 rfl rfl (fun h12 => ?_)
  refine y_aload_n d_D_init_37 rfl ?_
  refine y_iconst (v := (J 0)) d_D_init_38 rfl ?_
  refine y_put d_D_init_39 p_D_31 rfl rfl (fun h13 => ?_)
  refine y_aload_n d_D_init_42 rfl ?_
  refine y_iconst (v := (J 3)) d_D_init_43 rfl ?_
  refine y_put d_D_init_44 p_D_34 rfl rfl (fun h14 => ?_)
  refine y_aload_n d_D_init_47 rfl ?_
  refine y_iconst (v := (J 0)) d_D_init_48 rfl ?_
  refine y_put d_D_init_49 p_D_37 rfl rfl (fun h15 => ?_)
  refine y_aload_n d_D_init_52 rfl ?_
  refine y_iconst (v := (J 0)) d_D_init_53 rfl ?_
  refine y_put d_D_init_54 p_D_40 rfl rfl (fun h16 => ?_)
  exact y_retU d_D_init_57 rfl
noncomputable def P_D_copyFrom (Θ : mW) (N : Nat) (h : mH) (a0 : Nat) (a1 : Nat) : Option (Unit × mH) :=
  (bo (rA Θ h 1 a0 0) (fun v1 => (bo (rA Θ h 1 a1 0) (fun v2 => (gO Θ h 2 v1 (bc (P_L_copyFrom Θ N h v1 v2) (fun v4 h3 => (bo (rA Θ h3 1 a0 1) (fun v5 => (bo (rA Θ h3 1 a1 1) (fun v6 => (gO Θ h3 4 v5 (bc (P_B_copyFrom Θ N h3 v5 v6) (fun v8 h7 => (bo (rI Θ h7 1 a1 2) (fun v9 => (bo (wF Θ h7 1 a0 2 (.int v9)) (fun h10 => (bo (rI Θ h10 1 a1 3) (fun v11 => (if v11 = J 0 ∨ v11 = J 1 then (bo (wF Θ h10 1 a0 3 (.int v11)) (fun h12 => (bo (rI Θ h12 1 a1 4) (fun v13 => (bo (wF Θ h12 1 a0 4 (.int v13)) (fun h14 => (bo (rI Θ h14 1 a1 5) (fun v15 => (bo (wF Θ h14 1 a0 5 (.int v15)) (fun h16 => (bo (rI Θ h16 1 a1 6) (fun v17 => (bo (wF Θ h16 1 a0 6 (.int v17)) (fun h18 => (bo (rI Θ h18 1 a1 7) (fun v19 => (bo (wF Θ h18 1 a0 7 (.int v19)) (fun h20 => (some ((), h20)))))))))))))))))))) else none)))))))))))))))))))))
theorem S_D_copyFrom (hfl : HF l Θ) (hD : 4 ≤ d) (h : mH) (a0 : Nat) (a1 : Nat) : mMs l Θ d M_D_copyFrom [.ref a0, .ref a1] h (tR vU) (P_D_copyFrom Θ N h a0 a1) := by
  refine mMs.of hfl (by decide +kernel) rfl (Nat.le_of_ble_eq_true rfl) (loc := [some (.ref a0), some (.ref a1)]) rfl ?_
  unfold P_D_copyFrom
  refine y_aload_n d_D_copyFrom_0 rfl ?_
  refine y_getA d_D_copyFrom_1 f_D_10 (fun v1 => ?_)
  refine y_aload_n d_D_copyFrom_4 rfl ?_
  refine y_getA d_D_copyFrom_5 f_D_10 (fun v2 => ?_)
  refine y_gO (fun fs1 g1 => y_cU (c_vi (rest := []) d_D_copyFrom_8 k_L_copyFrom s_D_43 (Or.inl ⟨_, _, _, g1, rfl, rfl⟩) rfl rfl (Nat.le_of_ble_eq_true rfl) (Nat.le_trans (Nat.le_of_ble_eq_true rfl : 3 + 1 ≤ 4) hD) (S_L_copyFrom hfl (Nat.le_refl _) h v1 v2)) (fun v4 h3 => ?_))
  refine y_aload_n d_D_copyFrom_11 rfl ?_
  refine y_getA d_D_copyFrom_12 f_D_19 (fun v5 => ?_)
  refine y_aload_n d_D_copyFrom_15 rfl ?_
  refine y_getA d_D_copyFrom_16 f_D_19 (fun v6 => ?_)
  refine y_gO (fun fs1 g1 => y_cU (c_vi (rest := []) d_D_copyFrom_19 k_B_copyFrom s_D_47 (Or.inl ⟨_, _, _, g1, rfl, rfl⟩) rfl rfl (Nat.le_of_ble_eq_true rfl) (Nat.le_trans (Nat.le_of_ble_eq_true rfl : 1 + 1 ≤ 4) hD) (S_B_copyFrom hfl (Nat.le_refl _) h3 v5 v6)) (fun v8 h7 => ?_))
  refine y_aload_n d_D_copyFrom_22 rfl ?_
  refine y_aload_n d_D_copyFrom_23 rfl ?_
  refine y_getI d_D_copyFrom_24 f_D_23 (fun v9 => ?_)
  refine y_put d_D_copyFrom_27 p_D_23 rfl rfl (fun h10 => ?_)
  refine y_aload_n d_D_copyFrom_30 rfl ?_
  refine y_aload_n d_D_copyFrom_31 rfl ?_
  refine y_getI d_D_copyFrom_32 f_D_27 (fun v11 => ?_)
  refine y_gZ (fun hn hf => y_put d_D_copyFrom_35 p_D_27 hn hf (fun h12 => ?_))
  refine y_aload_n d_D_copyFrom_38 rfl ?_
  refine y_aload_n d_D_copyFrom_39 rfl ?_
  refine y_getI d_D_copyFrom_40 f_D_31 (fun v13 => ?_)
  refine y_put d_D_copyFrom_43 p_D_31 rfl rfl (fun h14 => ?_)
  refine y_aload_n d_D_copyFrom_46 rfl ?_
  refine y_aload_n d_D_copyFrom_47 rfl ?_
  refine y_getI d_D_copyFrom_48 f_D_34 (fun v15 => ?_)
  refine y_put d_D_copyFrom_51 p_D_34 rfl rfl (fun h16 => ?_)
  refine y_aload_n d_D_copyFrom_54 rfl ?_
  refine y_aload_n d_D_copyFrom_55 rfl ?_
  refine y_getI d_D_copyFrom_56 f_D_37 (fun v17 => ?_)
  refine y_put d_D_copyFrom_59 p_D_37 rfl rfl (fun h18 => ?_)
  refine y_aload_n d_D_copyFrom_62 rfl ?_
  refine y_aload_n d_D_copyFrom_63 rfl ?_
  refine y_getI d_D_copyFrom_64 f_D_40 (fun v19 => ?_)
  refine y_put d_D_copyFrom_67 p_D_40 rfl rfl (fun h20 => ?_)
  exact y_retU d_D_copyFrom_70 rfl
noncomputable def P_D_canEnterNow (Θ : mW) (N : Nat) (h : mH) (a0 : Nat) (a1 : Nat) : Option (Int32 × mH) :=
  (bo (rI Θ h 1 a0 2) (fun v1 => (bo (rI Θ h 3 a1 2) (fun v2 => (if v1 < (v2 + (J 2)) then (some ((J 0), h)) else (some ((J 1), h)))))))
theorem S_D_canEnterNow (hfl : HF l Θ) (hD : 1 ≤ d) (h : mH) (a0 : Nat) (a1 : Nat) : mMs l Θ d M_D_canEnterNow [.ref a0, .ref a1] h (tR vI) (P_D_canEnterNow Θ N h a0 a1) := by
  refine mMs.of hfl (by decide +kernel) rfl (Nat.le_of_ble_eq_true rfl) (loc := [some (.ref a0), some (.ref a1)]) rfl ?_
  unfold P_D_canEnterNow
  refine y_aload_n d_D_canEnterNow_0 rfl ?_
  refine y_getI d_D_canEnterNow_1 f_D_23 (fun v1 => ?_)
  refine y_aload_n d_D_canEnterNow_4 rfl ?_
  refine y_getI d_D_canEnterNow_5 f_D_83 (fun v2 => ?_)
  refine y_iconst (v := (J 2)) d_D_canEnterNow_8 rfl ?_
  refine y_iadd (v := (v2 + (J 2))) d_D_canEnterNow_9 rfl ?_
  refine y_icmp_lt (tgt := 17) d_D_canEnterNow_10 (by decide) ?_ ?_
  · refine y_iconst (v := (J 0)) d_D_canEnterNow_17 rfl ?_
    exact y_retI d_D_canEnterNow_18 rfl (by decide +kernel)
  · refine y_iconst (v := (J 1)) d_D_canEnterNow_13 rfl ?_
    refine y_goto (tgt := 18) d_D_canEnterNow_14 (by decide) ?_
    exact y_retI d_D_canEnterNow_18 rfl (by decide +kernel)
noncomputable def P_D_entryRefusal (Θ : mW) (N : Nat) (h : mH) (a0 : Nat) (a1 : Int32) (a2 : Int32) : Option ((Int32 ⊕ Nat) × mH) :=
  (bo (rA Θ h 1 a0 0) (fun v1 => (gO Θ h 2 v1 (bx (P_L_known Θ N h v1 a1) (fun v3 h2 => (if a2 < 0 then (xp 11 (h2 ++ [oB 11 []])) else (bo (rI Θ h2 3 v3 1) (fun v4 => (if a2 ≤ ((J 60) - v4) then (gO Θ h2 3 v3 (bc (P_S_isDocked Θ N h2 v3) (fun v6 h5 => (if v6 = 0 then (bo (rI Θ h5 1 a0 3) (fun v7 => (if v7 = 0 then (xp 12 (h5 ++ [oB 12 []])) else (gO Θ h5 1 a0 (bc (P_D_canEnterNow Θ N h5 a0 v3) (fun v9 h8 => (if v9 = 0 then (some (.inl (J 1), h8)) else (bo (rA Θ h8 1 a0 0) (fun v10 => (bo (rI Θ h8 3 v3 1) (fun v11 => (gO Θ h8 2 v10 (bn (P_L_overlapping Θ N h8 v10 a2 v11) (fun v13 h12 => (some (.inl (J 2), h12))) (fun h14 => (some (.inl (J 0), h14)))))))))))))))) else (xp 12 (h5 ++ [oB 12 []])))))) else (xp 11 (h2 ++ [oB 11 []]))))))) (fun n9 h9 => xp n9 h9)))))
theorem S_D_entryRefusal (hfl : HF l Θ) (hD : 7 ≤ d) (h : mH) (a0 : Nat) (a1 : Int32) (a2 : Int32) : mMs l Θ d M_D_entryRefusal [.ref a0, .int a1, .int a2] h (tX vI) (P_D_entryRefusal Θ N h a0 a1 a2) := by
  refine mMs.of hfl (by decide +kernel) rfl (Nat.le_of_ble_eq_true rfl) (loc := [some (.ref a0), some (.int a1), some (.int a2), none]) rfl ?_
  unfold P_D_entryRefusal
  refine y_aload_n d_D_entryRefusal_0 rfl ?_
  refine y_getA d_D_entryRefusal_1 f_D_10 (fun v1 => ?_)
  refine y_iload_n d_D_entryRefusal_4 rfl ?_
  refine y_gO (fun fs1 g1 => y_xA (c_vi (rest := []) d_D_entryRefusal_5 k_L_known s_D_50 (Or.inl ⟨_, _, _, g1, rfl, rfl⟩) rfl rfl (Nat.le_of_ble_eq_true rfl) (Nat.le_trans (Nat.le_of_ble_eq_true rfl : 6 + 1 ≤ 7) hD) (S_L_known hfl (Nat.le_refl _) h v1 a1)) (fun v3 h2 => ?_) (fun _ _ => y_hp rfl))
  refine y_astore_n (loc2 := [some (.ref a0), some (.int a1), some (.int a2), some (.ref v3)]) d_D_entryRefusal_8 (Nat.le_of_ble_eq_true rfl) rfl rfl ?_
  refine y_iload_n d_D_entryRefusal_9 rfl ?_
  refine y_if_lt (tgt := 24) d_D_entryRefusal_10 (by decide) ?_ ?_
  · exact y_throw rfl d_D_entryRefusal_24 d_D_entryRefusal_27 d_D_entryRefusal_28 d_D_entryRefusal_30 d_D_entryRefusal_33 mExc_11 y_D_59 x_D_63 (List.mem_of_getElem? (i := 4) rfl) (Nat.le_of_ble_eq_true rfl) (Nat.le_trans (Nat.le_of_ble_eq_true rfl) hD)
  · refine y_iload_n d_D_entryRefusal_13 rfl ?_
    refine y_bipush (v := (J 60)) d_D_entryRefusal_14 (by decide +kernel) ?_
    refine y_aload_n d_D_entryRefusal_16 rfl ?_
    refine y_getI d_D_entryRefusal_17 f_D_54 (fun v4 => ?_)
    refine y_isub (v := ((J 60) - v4)) d_D_entryRefusal_20 rfl ?_
    refine y_icmp_le (tgt := 34) d_D_entryRefusal_21 (by decide) ?_ ?_
    · refine y_aload_n d_D_entryRefusal_34 rfl ?_
      refine y_gO (fun fs1 g1 => y_cI (c_vi (rest := []) d_D_entryRefusal_35 k_S_isDocked s_D_66 (Or.inl ⟨_, _, _, g1, rfl, rfl⟩) rfl rfl (Nat.le_of_ble_eq_true rfl) (Nat.le_trans (Nat.le_of_ble_eq_true rfl : 1 + 1 ≤ 7) hD) (S_S_isDocked hfl (Nat.le_refl _) h2 v3)) (fun v6 h5 => ?_))
      refine y_if_ne (tgt := 48) d_D_entryRefusal_38 (by decide) ?_ ?_
      · exact y_throw rfl d_D_entryRefusal_48 d_D_entryRefusal_51 d_D_entryRefusal_52 d_D_entryRefusal_54 d_D_entryRefusal_57 mExc_12 y_D_70 x_D_74 (List.mem_of_getElem? (i := 5) rfl) (Nat.le_of_ble_eq_true rfl) (Nat.le_trans (Nat.le_of_ble_eq_true rfl) hD)
      · refine y_aload_n d_D_entryRefusal_41 rfl ?_
        refine y_getI d_D_entryRefusal_42 f_D_27 (fun v7 => ?_)
        refine y_if_ne (tgt := 58) d_D_entryRefusal_45 (by decide) ?_ ?_
        · refine y_aload_n d_D_entryRefusal_58 rfl ?_
          refine y_aload_n d_D_entryRefusal_59 rfl ?_
          refine y_gO (fun fs1 g1 => y_cI (c_vi (rest := []) d_D_entryRefusal_60 k_D_canEnterNow s_D_75 (Or.inl ⟨_, _, _, g1, rfl, rfl⟩) rfl rfl (Nat.le_of_ble_eq_true rfl) (Nat.le_trans (Nat.le_of_ble_eq_true rfl : 1 + 1 ≤ 7) hD) (S_D_canEnterNow hfl (Nat.le_refl _) h5 a0 v3)) (fun v9 h8 => ?_))
          refine y_if_ne (tgt := 68) d_D_entryRefusal_63 (by decide) ?_ ?_
          · refine y_aload_n d_D_entryRefusal_68 rfl ?_
            refine y_getA d_D_entryRefusal_69 f_D_10 (fun v10 => ?_)
            refine y_iload_n d_D_entryRefusal_72 rfl ?_
            refine y_aload_n d_D_entryRefusal_73 rfl ?_
            refine y_getI d_D_entryRefusal_74 f_D_54 (fun v11 => ?_)
            refine y_gO (fun fs1 g1 => y_cN (c_vi (rest := []) d_D_entryRefusal_77 k_L_overlapping s_D_79 (Or.inl ⟨_, _, _, g1, rfl, rfl⟩) rfl rfl (Nat.le_of_ble_eq_true rfl) (Nat.le_trans (Nat.le_of_ble_eq_true rfl : 2 + 1 ≤ 7) hD) (S_L_overlapping hfl (Nat.le_refl _) h8 v10 a2 v11)) (fun v13 h12 => ?_) (fun h14 => ?_))
            · refine y_ifnonnull (tgt := 87) d_D_entryRefusal_80 (by decide) ?_
              refine y_iconst (v := (J 2)) d_D_entryRefusal_87 rfl ?_
              exact y_retIX d_D_entryRefusal_88 rfl rfl
            · refine y_ifnonnullN d_D_entryRefusal_80 ?_
              refine y_iconst (v := (J 0)) d_D_entryRefusal_83 rfl ?_
              refine y_goto (tgt := 88) d_D_entryRefusal_84 (by decide) ?_
              exact y_retIX d_D_entryRefusal_88 rfl rfl
          · refine y_iconst (v := (J 1)) d_D_entryRefusal_66 rfl ?_
            exact y_retIX d_D_entryRefusal_67 rfl rfl
        · exact y_throw rfl d_D_entryRefusal_48 d_D_entryRefusal_51 d_D_entryRefusal_52 d_D_entryRefusal_54 d_D_entryRefusal_57 mExc_12 y_D_70 x_D_74 (List.mem_of_getElem? (i := 5) rfl) (Nat.le_of_ble_eq_true rfl) (Nat.le_trans (Nat.le_of_ble_eq_true rfl) hD)
    · exact y_throw rfl d_D_entryRefusal_24 d_D_entryRefusal_27 d_D_entryRefusal_28 d_D_entryRefusal_30 d_D_entryRefusal_33 mExc_11 y_D_59 x_D_63 (List.mem_of_getElem? (i := 4) rfl) (Nat.le_of_ble_eq_true rfl) (Nat.le_trans (Nat.le_of_ble_eq_true rfl) hD)
noncomputable def P_D_moor (Θ : mW) (N : Nat) (h : mH) (a0 : Nat) (a1 : Int32) (a2 : Int32) : Option ((Int32 ⊕ Nat) × mH) :=
  (bo (rA Θ h 1 a0 0) (fun v1 => (gO Θ h 2 v1 (bx (P_L_known Θ N h v1 a1) (fun v3 h2 => (gO Θ h2 3 v3 (bc (P_S_moveTo Θ N h2 v3 a2) (fun v5 h4 => (bo (rA Θ h4 1 a0 0) (fun v6 => (gO Θ h4 2 v6 (bc (P_L_dockedCount Θ N h4 v6) (fun v8 h7 => (some (.inl v8, h7))))))))))) (fun n9 h9 => xp n9 h9)))))
theorem S_D_moor (hfl : HF l Θ) (hD : 7 ≤ d) (h : mH) (a0 : Nat) (a1 : Int32) (a2 : Int32) : mMs l Θ d M_D_moor [.ref a0, .int a1, .int a2] h (tX vI) (P_D_moor Θ N h a0 a1 a2) := by
  refine mMs.of hfl (by decide +kernel) rfl (Nat.le_of_ble_eq_true rfl) (loc := [some (.ref a0), some (.int a1), some (.int a2)]) rfl ?_
  unfold P_D_moor
  refine y_aload_n d_D_moor_0 rfl ?_
  refine y_getA d_D_moor_1 f_D_10 (fun v1 => ?_)
  refine y_iload_n d_D_moor_4 rfl ?_
  refine y_gO (fun fs1 g1 => y_xA (c_vi (rest := []) d_D_moor_5 k_L_known s_D_50 (Or.inl ⟨_, _, _, g1, rfl, rfl⟩) rfl rfl (Nat.le_of_ble_eq_true rfl) (Nat.le_trans (Nat.le_of_ble_eq_true rfl : 6 + 1 ≤ 7) hD) (S_L_known hfl (Nat.le_refl _) h v1 a1)) (fun v3 h2 => ?_) (fun _ _ => y_hp rfl))
  refine y_iload_n d_D_moor_8 rfl ?_
  refine y_gO (fun fs1 g1 => y_cU (c_vi (rest := []) d_D_moor_9 k_S_moveTo s_D_86 (Or.inl ⟨_, _, _, g1, rfl, rfl⟩) rfl rfl (Nat.le_of_ble_eq_true rfl) (Nat.le_trans (Nat.le_of_ble_eq_true rfl : 1 + 1 ≤ 7) hD) (S_S_moveTo hfl (Nat.le_refl _) h2 v3 a2)) (fun v5 h4 => ?_))
  refine y_aload_n d_D_moor_12 rfl ?_
  refine y_getA d_D_moor_13 f_D_10 (fun v6 => ?_)
  refine y_gO (fun fs1 g1 => y_cI (c_vi (rest := []) d_D_moor_16 k_L_dockedCount s_D_90 (Or.inl ⟨_, _, _, g1, rfl, rfl⟩) rfl rfl (Nat.le_of_ble_eq_true rfl) (Nat.le_trans (Nat.le_of_ble_eq_true rfl : 2 + 1 ≤ 7) hD) (S_L_dockedCount hfl (Nat.le_refl _) h4 v6)) (fun v8 h7 => ?_))
  exact y_retIX d_D_moor_19 rfl rfl
noncomputable def P_D_leaveRefusal (Θ : mW) (N : Nat) (h : mH) (a0 : Nat) (a1 : Int32) : Option ((Int32 ⊕ Nat) × mH) :=
  (bo (rA Θ h 1 a0 0) (fun v1 => (gO Θ h 2 v1 (bx (P_L_docked Θ N h v1 a1) (fun v3 h2 => (bo (rI Θ h2 1 a0 3) (fun v4 => (if v4 = 0 then (xp 12 (h2 ++ [oB 12 []])) else (bo (rI Θ h2 1 a0 2) (fun v5 => (gO Θ h2 3 v3 (bc (P_S_floatsAt Θ N h2 v3 v5) (fun v7 h6 => (if v7 = 0 then (some (.inl (J 3), h6)) else (bo (rI Θ h6 3 v3 6) (fun v8 => (if v8 = 0 then (some (.inl (J 0), h6)) else (some (.inl (J 4), h6))))))))))))))) (fun n9 h9 => xp n9 h9)))))
theorem S_D_leaveRefusal (hfl : HF l Θ) (hD : 8 ≤ d) (h : mH) (a0 : Nat) (a1 : Int32) : mMs l Θ d M_D_leaveRefusal [.ref a0, .int a1] h (tX vI) (P_D_leaveRefusal Θ N h a0 a1) := by
  refine mMs.of hfl (by decide +kernel) rfl (Nat.le_of_ble_eq_true rfl) (loc := [some (.ref a0), some (.int a1), none]) rfl ?_
  unfold P_D_leaveRefusal
  refine y_aload_n d_D_leaveRefusal_0 rfl ?_
  refine y_getA d_D_leaveRefusal_1 f_D_10 (fun v1 => ?_)
  refine y_iload_n d_D_leaveRefusal_4 rfl ?_
  refine y_gO (fun fs1 g1 => y_xA (c_vi (rest := []) d_D_leaveRefusal_5 k_L_docked s_D_94 (Or.inl ⟨_, _, _, g1, rfl, rfl⟩) rfl rfl (Nat.le_of_ble_eq_true rfl) (Nat.le_trans (Nat.le_of_ble_eq_true rfl : 7 + 1 ≤ 8) hD) (S_L_docked hfl (Nat.le_refl _) h v1 a1)) (fun v3 h2 => ?_) (fun _ _ => y_hp rfl))
  refine y_astore_n (loc2 := [some (.ref a0), some (.int a1), some (.ref v3)]) d_D_leaveRefusal_8 (Nat.le_of_ble_eq_true rfl) rfl rfl ?_
  refine y_aload_n d_D_leaveRefusal_9 rfl ?_
  refine y_getI d_D_leaveRefusal_10 f_D_27 (fun v4 => ?_)
  refine y_if_ne (tgt := 26) d_D_leaveRefusal_13 (by decide) ?_ ?_
  · refine y_aload_n d_D_leaveRefusal_26 rfl ?_
    refine y_aload_n d_D_leaveRefusal_27 rfl ?_
    refine y_getI d_D_leaveRefusal_28 f_D_23 (fun v5 => ?_)
    refine y_gO (fun fs1 g1 => y_cI (c_vi (rest := []) d_D_leaveRefusal_31 k_S_floatsAt s_D_99 (Or.inl ⟨_, _, _, g1, rfl, rfl⟩) rfl rfl (Nat.le_of_ble_eq_true rfl) (Nat.le_trans (Nat.le_of_ble_eq_true rfl : 2 + 1 ≤ 8) hD) (S_S_floatsAt hfl (Nat.le_refl _) h2 v3 v5)) (fun v7 h6 => ?_))
    refine y_if_ne (tgt := 39) d_D_leaveRefusal_34 (by decide) ?_ ?_
    · refine y_aload_n d_D_leaveRefusal_39 rfl ?_
      refine y_getI d_D_leaveRefusal_40 f_D_103 (fun v8 => ?_)
      refine y_if_ne (tgt := 50) d_D_leaveRefusal_43 (by decide) ?_ ?_
      · refine y_iconst (v := (J 4)) d_D_leaveRefusal_50 rfl ?_
        exact y_retIX d_D_leaveRefusal_51 rfl rfl
      · refine y_iconst (v := (J 0)) d_D_leaveRefusal_46 rfl ?_
        refine y_goto (tgt := 51) d_D_leaveRefusal_47 (by decide) ?_
        exact y_retIX d_D_leaveRefusal_51 rfl rfl
    · refine y_iconst (v := (J 3)) d_D_leaveRefusal_37 rfl ?_
      exact y_retIX d_D_leaveRefusal_38 rfl rfl
  · exact y_throw rfl d_D_leaveRefusal_16 d_D_leaveRefusal_19 d_D_leaveRefusal_20 d_D_leaveRefusal_22 d_D_leaveRefusal_25 mExc_12 y_D_70 x_D_74 (List.mem_of_getElem? (i := 8) rfl) (Nat.le_of_ble_eq_true rfl) (Nat.le_trans (Nat.le_of_ble_eq_true rfl) hD)
noncomputable def P_D_castOff (Θ : mW) (N : Nat) (h : mH) (a0 : Nat) (a1 : Int32) : Option ((Int32 ⊕ Nat) × mH) :=
  (bo (rA Θ h 1 a0 0) (fun v1 => (gO Θ h 2 v1 (bx (P_L_known Θ N h v1 a1) (fun v3 h2 => (gO Θ h2 3 v3 (bc (P_S_moveTo Θ N h2 v3 (J (-1))) (fun v5 h4 => (bo (rA Θ h4 1 a0 0) (fun v6 => (gO Θ h4 2 v6 (bc (P_L_dockedCount Θ N h4 v6) (fun v8 h7 => (some (.inl v8, h7))))))))))) (fun n9 h9 => xp n9 h9)))))
theorem S_D_castOff (hfl : HF l Θ) (hD : 7 ≤ d) (h : mH) (a0 : Nat) (a1 : Int32) : mMs l Θ d M_D_castOff [.ref a0, .int a1] h (tX vI) (P_D_castOff Θ N h a0 a1) := by
  refine mMs.of hfl (by decide +kernel) rfl (Nat.le_of_ble_eq_true rfl) (loc := [some (.ref a0), some (.int a1)]) rfl ?_
  unfold P_D_castOff
  refine y_aload_n d_D_castOff_0 rfl ?_
  refine y_getA d_D_castOff_1 f_D_10 (fun v1 => ?_)
  refine y_iload_n d_D_castOff_4 rfl ?_
  refine y_gO (fun fs1 g1 => y_xA (c_vi (rest := []) d_D_castOff_5 k_L_known s_D_50 (Or.inl ⟨_, _, _, g1, rfl, rfl⟩) rfl rfl (Nat.le_of_ble_eq_true rfl) (Nat.le_trans (Nat.le_of_ble_eq_true rfl : 6 + 1 ≤ 7) hD) (S_L_known hfl (Nat.le_refl _) h v1 a1)) (fun v3 h2 => ?_) (fun _ _ => y_hp rfl))
  refine y_iconst (v := (J (-1))) d_D_castOff_8 rfl ?_
  refine y_gO (fun fs1 g1 => y_cU (c_vi (rest := []) d_D_castOff_9 k_S_moveTo s_D_86 (Or.inl ⟨_, _, _, g1, rfl, rfl⟩) rfl rfl (Nat.le_of_ble_eq_true rfl) (Nat.le_trans (Nat.le_of_ble_eq_true rfl : 1 + 1 ≤ 7) hD) (S_S_moveTo hfl (Nat.le_refl _) h2 v3 (J (-1)))) (fun v5 h4 => ?_))
  refine y_aload_n d_D_castOff_12 rfl ?_
  refine y_getA d_D_castOff_13 f_D_10 (fun v6 => ?_)
  refine y_gO (fun fs1 g1 => y_cI (c_vi (rest := []) d_D_castOff_16 k_L_dockedCount s_D_90 (Or.inl ⟨_, _, _, g1, rfl, rfl⟩) rfl rfl (Nat.le_of_ble_eq_true rfl) (Nat.le_trans (Nat.le_of_ble_eq_true rfl : 2 + 1 ≤ 7) hD) (S_L_dockedCount hfl (Nat.le_refl _) h4 v6)) (fun v8 h7 => ?_))
  exact y_retIX d_D_castOff_19 rfl rfl
noncomputable def P_D_switchCleaning (Θ : mW) (N : Nat) (h : mH) (a0 : Nat) (a1 : Int32) (a2 : Int32) : Option ((Int32 ⊕ Nat) × mH) :=
  (bo (rA Θ h 1 a0 0) (fun v1 => (gO Θ h 2 v1 (bx (P_L_docked Θ N h v1 a1) (fun v3 h2 => (bo (rI Θ h2 3 v3 8) (fun v4 => (if a2 = J 0 ∨ a2 = J 1 then (bo (wF Θ h2 3 v3 8 (.int a2)) (fun h5 => (if v4 = J 0 ∨ v4 = J 1 then some (.inl v4, h5) else none))) else none)))) (fun n9 h9 => xp n9 h9)))))
theorem S_D_switchCleaning (hfl : HF l Θ) (hD : 8 ≤ d) (h : mH) (a0 : Nat) (a1 : Int32) (a2 : Int32) : mMs l Θ d M_D_switchCleaning [.ref a0, .int a1, .int a2] h (tX vI) (P_D_switchCleaning Θ N h a0 a1 a2) := by
  refine mMs.of hfl (by decide +kernel) rfl (Nat.le_of_ble_eq_true rfl) (loc := [some (.ref a0), some (.int a1), some (.int a2), none, none]) rfl ?_
  unfold P_D_switchCleaning
  refine y_aload_n d_D_switchCleaning_0 rfl ?_
  refine y_getA d_D_switchCleaning_1 f_D_10 (fun v1 => ?_)
  refine y_iload_n d_D_switchCleaning_4 rfl ?_
  refine y_gO (fun fs1 g1 => y_xA (c_vi (rest := []) d_D_switchCleaning_5 k_L_docked s_D_94 (Or.inl ⟨_, _, _, g1, rfl, rfl⟩) rfl rfl (Nat.le_of_ble_eq_true rfl) (Nat.le_trans (Nat.le_of_ble_eq_true rfl : 7 + 1 ≤ 8) hD) (S_L_docked hfl (Nat.le_refl _) h v1 a1)) (fun v3 h2 => ?_) (fun _ _ => y_hp rfl))
  refine y_astore_n (loc2 := [some (.ref a0), some (.int a1), some (.int a2), some (.ref v3), none]) d_D_switchCleaning_8 (Nat.le_of_ble_eq_true rfl) rfl rfl ?_
  refine y_aload_n d_D_switchCleaning_9 rfl ?_
  refine y_getI d_D_switchCleaning_10 f_D_106 (fun v4 => ?_)
  refine y_istore (loc2 := [some (.ref a0), some (.int a1), some (.int a2), some (.ref v3), some (.int v4)]) d_D_switchCleaning_13 (Nat.le_of_ble_eq_true rfl) rfl rfl ?_
  refine y_aload_n d_D_switchCleaning_15 rfl ?_
  refine y_iload_n d_D_switchCleaning_16 rfl ?_
  refine y_gZ (fun hn hf => y_put d_D_switchCleaning_17 p_D_106 hn hf (fun h5 => ?_))
  refine y_iload d_D_switchCleaning_20 rfl ?_
  exact y_gZ (fun hn _ => y_retIX d_D_switchCleaning_22 rfl hn)
noncomputable def P_D_moveGate (Θ : mW) (N : Nat) (h : mH) (a0 : Nat) (a1 : Int32) : Option ((Int32 ⊕ Nat) × mH) :=
  (bo (rI Θ h 1 a0 2) (fun v1 => (bo (rI Θ h 1 a0 5) (fun v2 => (bc (P_E_byFormula Θ N h v2) (fun v4 h3 => (jn (fun (h6 : mH) => (bo (rI Θ h6 1 a0 3) (fun v7 => (if a1 = J 0 ∨ a1 = J 1 then (bo (wF Θ h6 1 a0 3 (.int a1)) (fun h8 => (if v7 = J 0 ∨ v7 = J 1 then some (.inl v7, h8) else none))) else none)))) (fun j5 => (if a1 = 0 then (j5 h3) else (if (abI (v1 - v4)) ≤ (J 20) then (j5 h3) else (xp 13 (h3 ++ [oB 13 []]))))))))))))
theorem S_D_moveGate (hfl : HF l Θ) (hD : 6 ≤ d) (h : mH) (a0 : Nat) (a1 : Int32) : mMs l Θ d M_D_moveGate [.ref a0, .int a1] h (tX vI) (P_D_moveGate Θ N h a0 a1) := by
  refine mMs.of hfl (by decide +kernel) rfl (Nat.le_of_ble_eq_true rfl) (loc := [some (.ref a0), some (.int a1), none, none]) rfl ?_
  unfold P_D_moveGate
  refine y_aload_n d_D_moveGate_0 rfl ?_
  refine y_getI d_D_moveGate_1 f_D_23 (fun v1 => ?_)
  refine y_aload_n d_D_moveGate_4 rfl ?_
  refine y_getI d_D_moveGate_5 f_D_34 (fun v2 => ?_)
  refine y_cI (c_st (rest := [.int v1]) d_D_moveGate_8 k_E_byFormula s_D_109 rfl rfl (Nat.le_of_ble_eq_true rfl) (Nat.le_trans (Nat.le_of_ble_eq_true rfl : 1 + 1 ≤ 6) hD) (S_E_byFormula hfl (Nat.le_refl _) h v2)) (fun v4 h3 => ?_)
  refine y_isub (v := (v1 - v4)) d_D_moveGate_11 rfl ?_
  refine y_mabs d_D_moveGate_12 s_D_115.1 s_D_115.2 k_MA_abs.2.2.2.2.2 (mG (3, 152) (by decide +kernel)) (Nat.le_of_ble_eq_true rfl) (Nat.le_trans (Nat.le_of_ble_eq_true rfl) hD) ?_
  refine y_istore_n (loc2 := [some (.ref a0), some (.int a1), some (.int (abI (v1 - v4))), none]) d_D_moveGate_15 (Nat.le_of_ble_eq_true rfl) rfl rfl ?_
  refine y_iload_n d_D_moveGate_16 rfl ?_
  refine y_jn (C := fun (j9 : mH → Option ((Int32 ⊕ Nat) × mH)) => ∀ (h6 : mH), mY l Θ d M_D_moveGate 36 [some (.ref a0), some (.int a1), none, none] [] h6 (tX vI) (j9 h6)) (fun h6 => ?_) (fun j5 Hj5 => ?_)
  · refine y_aload_n d_D_moveGate_36 rfl ?_
    refine y_getI d_D_moveGate_37 f_D_27 (fun v7 => ?_)
    refine y_istore_n (loc2 := [some (.ref a0), some (.int a1), none, some (.int v7)]) d_D_moveGate_40 (Nat.le_of_ble_eq_true rfl) rfl rfl ?_
    refine y_aload_n d_D_moveGate_41 rfl ?_
    refine y_iload_n d_D_moveGate_42 rfl ?_
    refine y_gZ (fun hn hf => y_put d_D_moveGate_43 p_D_27 hn hf (fun h8 => ?_))
    refine y_iload_n d_D_moveGate_46 rfl ?_
    exact y_gZ (fun hn _ => y_retIX d_D_moveGate_47 rfl hn)
  · refine y_if_eq (tgt := 36) d_D_moveGate_17 (by decide) ?_ ?_
    · exact y_wk (loc2 := [some (.ref a0), some (.int a1), none, none]) ⟨rfl, ⟨rfl, trivial⟩⟩ (Hj5 h3)
    · refine y_iload_n d_D_moveGate_20 rfl ?_
      refine y_bipush (v := (J 20)) d_D_moveGate_21 (by decide +kernel) ?_
      refine y_icmp_le (tgt := 36) d_D_moveGate_23 (by decide) ?_ ?_
      · exact y_wk (loc2 := [some (.ref a0), some (.int a1), none, none]) ⟨rfl, ⟨rfl, trivial⟩⟩ (Hj5 h3)
      · exact y_throw rfl d_D_moveGate_26 d_D_moveGate_29 d_D_moveGate_30 d_D_moveGate_32 d_D_moveGate_35 mExc_13 y_D_120 x_D_124 (List.mem_of_getElem? (i := 9) rfl) (Nat.le_of_ble_eq_true rfl) (Nat.le_trans (Nat.le_of_ble_eq_true rfl) hD)
noncomputable def P_D_changeRate (Θ : mW) (N : Nat) (h : mH) (a0 : Nat) (a1 : Int32) : Option ((Int32 ⊕ Nat) × mH) :=
  (if a1 < (J (-30)) then (xp 11 (h ++ [oB 11 []])) else (if a1 ≤ (J 30) then (bo (rI Θ h 1 a0 4) (fun v1 => (bo (wF Θ h 1 a0 4 (.int a1)) (fun h2 => (some (.inl v1, h2)))))) else (xp 11 (h ++ [oB 11 []]))))
theorem S_D_changeRate (hfl : HF l Θ) (hD : 6 ≤ d) (h : mH) (a0 : Nat) (a1 : Int32) : mMs l Θ d M_D_changeRate [.ref a0, .int a1] h (tX vI) (P_D_changeRate Θ N h a0 a1) := by
  refine mMs.of hfl (by decide +kernel) rfl (Nat.le_of_ble_eq_true rfl) (loc := [some (.ref a0), some (.int a1), none]) rfl ?_
  unfold P_D_changeRate
  refine y_iload_n d_D_changeRate_0 rfl ?_
  refine y_bipush (v := (J (-30))) d_D_changeRate_1 (by decide +kernel) ?_
  refine y_icmp_lt (tgt := 12) d_D_changeRate_3 (by decide) ?_ ?_
  · exact y_throw rfl d_D_changeRate_12 d_D_changeRate_15 d_D_changeRate_16 d_D_changeRate_18 d_D_changeRate_21 mExc_11 y_D_59 x_D_63 (List.mem_of_getElem? (i := 10) rfl) (Nat.le_of_ble_eq_true rfl) (Nat.le_trans (Nat.le_of_ble_eq_true rfl) hD)
  · refine y_iload_n d_D_changeRate_6 rfl ?_
    refine y_bipush (v := (J 30)) d_D_changeRate_7 (by decide +kernel) ?_
    refine y_icmp_le (tgt := 22) d_D_changeRate_9 (by decide) ?_ ?_
    · refine y_aload_n d_D_changeRate_22 rfl ?_
      refine y_getI d_D_changeRate_23 f_D_31 (fun v1 => ?_)
      refine y_istore_n (loc2 := [some (.ref a0), some (.int a1), some (.int v1)]) d_D_changeRate_26 (Nat.le_of_ble_eq_true rfl) rfl rfl ?_
      refine y_aload_n d_D_changeRate_27 rfl ?_
      refine y_iload_n d_D_changeRate_28 rfl ?_
      refine y_put d_D_changeRate_29 p_D_31 rfl rfl (fun h2 => ?_)
      refine y_iload_n d_D_changeRate_32 rfl ?_
      exact y_retIX d_D_changeRate_33 rfl rfl
    · exact y_throw rfl d_D_changeRate_12 d_D_changeRate_15 d_D_changeRate_16 d_D_changeRate_18 d_D_changeRate_21 mExc_11 y_D_59 x_D_63 (List.mem_of_getElem? (i := 10) rfl) (Nat.le_of_ble_eq_true rfl) (Nat.le_trans (Nat.le_of_ble_eq_true rfl) hD)
noncomputable def P_D_levelInHour (Θ : mW) (N : Nat) (h : mH) (a0 : Nat) (a1 : Int32) (a2 : Int32) : Option (Int32 × mH) :=
  (bo (rI Θ h 1 a0 3) (fun v1 => (if v1 = 0 then (bo (rI Θ h 1 a0 4) (fun v4 => (some ((mxI (J 0) (mnI (J 200) (a2 + v4))), h)))) else (bc (P_E_byFormula Θ N h a1) (fun v3 h2 => (some ((a2 + (mxI (J (-20)) (mnI (J 20) (v3 - a2)))), h2)))))))
theorem S_D_levelInHour (hfl : HF l Θ) (hD : 2 ≤ d) (h : mH) (a0 : Nat) (a1 : Int32) (a2 : Int32) : mMs l Θ d M_D_levelInHour [.ref a0, .int a1, .int a2] h (tR vI) (P_D_levelInHour Θ N h a0 a1 a2) := by
  refine mMs.of hfl (by decide +kernel) rfl (Nat.le_of_ble_eq_true rfl) (loc := [some (.ref a0), some (.int a1), some (.int a2), none]) rfl ?_
  unfold P_D_levelInHour
  refine y_aload_n d_D_levelInHour_0 rfl ?_
  refine y_getI d_D_levelInHour_1 f_D_27 (fun v1 => ?_)
  refine y_if_ne (tgt := 24) d_D_levelInHour_4 (by decide) ?_ ?_
  · refine y_iload_n d_D_levelInHour_24 rfl ?_
    refine y_cI (c_st (rest := []) d_D_levelInHour_25 k_E_byFormula s_D_109 rfl rfl (Nat.le_of_ble_eq_true rfl) (Nat.le_trans (Nat.le_of_ble_eq_true rfl : 1 + 1 ≤ 2) hD) (S_E_byFormula hfl (Nat.le_refl _) h a1)) (fun v3 h2 => ?_)
    refine y_iload_n d_D_levelInHour_28 rfl ?_
    refine y_isub (v := (v3 - a2)) d_D_levelInHour_29 rfl ?_
    refine y_istore_n (loc2 := [some (.ref a0), some (.int a1), some (.int a2), some (.int (v3 - a2))]) d_D_levelInHour_30 (Nat.le_of_ble_eq_true rfl) rfl rfl ?_
    refine y_iload_n d_D_levelInHour_31 rfl ?_
    refine y_bipush (v := (J (-20))) d_D_levelInHour_32 (by decide +kernel) ?_
    refine y_bipush (v := (J 20)) d_D_levelInHour_34 (by decide +kernel) ?_
    refine y_iload_n d_D_levelInHour_36 rfl ?_
    refine y_mmin d_D_levelInHour_37 s_D_147.1 s_D_147.2 k_MA_min.2.2.2.2.2 (mG (2, 239) (by decide +kernel)) (Nat.le_of_ble_eq_true rfl) (Nat.le_trans (Nat.le_of_ble_eq_true rfl) hD) ?_
    refine y_mmax d_D_levelInHour_40 s_D_150.1 s_D_150.2 k_MA_max.2.2.2.2.2 (mG (3, 185) (by decide +kernel)) (Nat.le_of_ble_eq_true rfl) (Nat.le_trans (Nat.le_of_ble_eq_true rfl) hD) ?_
    refine y_iadd (v := (a2 + (mxI (J (-20)) (mnI (J 20) (v3 - a2))))) d_D_levelInHour_43 rfl ?_
    exact y_retI d_D_levelInHour_44 rfl rfl
  · refine y_iconst (v := (J 0)) d_D_levelInHour_7 rfl ?_
    refine y_sipush (v := (J 200)) d_D_levelInHour_8 (by decide +kernel) ?_
    refine y_iload_n d_D_levelInHour_11 rfl ?_
    refine y_aload_n d_D_levelInHour_12 rfl ?_
    refine y_getI d_D_levelInHour_13 f_D_31 (fun v4 => ?_)
    refine y_iadd (v := (a2 + v4)) d_D_levelInHour_16 rfl ?_
    refine y_mmin d_D_levelInHour_17 s_D_147.1 s_D_147.2 k_MA_min.2.2.2.2.2 (mG (2, 239) (by decide +kernel)) (Nat.le_of_ble_eq_true rfl) (Nat.le_trans (Nat.le_of_ble_eq_true rfl) hD) ?_
    refine y_mmax d_D_levelInHour_20 s_D_150.1 s_D_150.2 k_MA_max.2.2.2.2.2 (mG (3, 185) (by decide +kernel)) (Nat.le_of_ble_eq_true rfl) (Nat.le_trans (Nat.le_of_ble_eq_true rfl) hD) ?_
    exact y_retI d_D_levelInHour_23 rfl rfl
noncomputable def P_D_charge (Θ : mW) (N : Nat) (h : mH) (a0 : Nat) (a1 : Nat) (a2 : Int32) : Option (Unit × mH) :=
  (bo (rI Θ h 3 a1 6) (fun v1 => (bo (wF Θ h 3 a1 6 (.int (v1 + a2))) (fun h2 => (bo (rI Θ h2 1 a0 6) (fun v3 => (bo (wF Θ h2 1 a0 6 (.int (v3 + a2))) (fun h4 => (some ((), h4))))))))))
theorem S_D_charge (hfl : HF l Θ) (hD : 1 ≤ d) (h : mH) (a0 : Nat) (a1 : Nat) (a2 : Int32) : mMs l Θ d M_D_charge [.ref a0, .ref a1, .int a2] h (tR vU) (P_D_charge Θ N h a0 a1 a2) := by
  refine mMs.of hfl (by decide +kernel) rfl (Nat.le_of_ble_eq_true rfl) (loc := [some (.ref a0), some (.ref a1), some (.int a2)]) rfl ?_
  unfold P_D_charge
  refine y_aload_n d_D_charge_0 rfl ?_
  refine y_dup d_D_charge_1 rfl ?_
  refine y_getI d_D_charge_2 f_D_103 (fun v1 => ?_)
  refine y_iload_n d_D_charge_5 rfl ?_
  refine y_iadd (v := (v1 + a2)) d_D_charge_6 rfl ?_
  refine y_put d_D_charge_7 p_D_103 rfl rfl (fun h2 => ?_)
  refine y_aload_n d_D_charge_10 rfl ?_
  refine y_dup d_D_charge_11 rfl ?_
  refine y_getI d_D_charge_12 f_D_37 (fun v3 => ?_)
  refine y_iload_n d_D_charge_15 rfl ?_
  refine y_iadd (v := (v3 + a2)) d_D_charge_16 rfl ?_
  refine y_put d_D_charge_17 p_D_37 rfl rfl (fun h4 => ?_)
  exact y_retU d_D_charge_20 rfl
noncomputable def P_D_spendHour (Θ : mW) (N : Nat) (h : mH) (a0 : Nat) (a1 : Nat) : Option (Int32 × mH) :=
  (bo (rI Θ h 1 a0 2) (fun v1 => (gO Θ h 3 a1 (bc (P_S_floatsAt Θ N h a1 v1) (fun v3 h2 => (if v3 = 0 then (bo (rA Θ h2 1 a0 1) (fun v4 => (gO Θ h2 4 v4 (bc (P_B_beneathByBlocks Θ N h2 v4 a1) (fun v6 h5 => (if (J 2) ≤ v6 then (bo (rI Θ h5 3 a1 8) (fun v7 => (jn (fun (h9 : mH) (s10 : Int32) => (bo (rI Θ h9 3 a1 3) (fun v11 => (bo (wF Θ h9 3 a1 3 (.int (v11 - s10))) (fun h12 => (gO Θ h12 1 a0 (bc (P_D_charge Θ N h12 a0 a1 (((J 2) + v6) + ((J 3) * s10))) (fun v14 h13 => (some (s10, h13)))))))))) (fun j8 => (if v7 = 0 then (j8 h5 (J 0)) else (bo (rI Θ h5 3 a1 3) (fun v15 => (j8 h5 (mnI (J 3) v15))))))))) else (bo (rI Θ h5 3 a1 4) (fun v16 => (bo (wF Θ h5 3 a1 4 (.int (v16 + (J 1)))) (fun h17 => (gO Θ h17 1 a0 (bc (P_D_charge Θ N h17 a0 a1 (J 2)) (fun v19 h18 => (some ((J 0), h18))))))))))))))) else (bo (rI Θ h2 3 a1 5) (fun v20 => (bo (wF Θ h2 3 a1 5 (.int (v20 + (J 1)))) (fun h21 => (gO Θ h21 1 a0 (bc (P_D_charge Θ N h21 a0 a1 (J 2)) (fun v23 h22 => (some ((J 0), h22)))))))))))))))
theorem S_D_spendHour (hfl : HF l Θ) (hD : 3 ≤ d) (h : mH) (a0 : Nat) (a1 : Nat) : mMs l Θ d M_D_spendHour [.ref a0, .ref a1] h (tR vI) (P_D_spendHour Θ N h a0 a1) := by
  refine mMs.of hfl (by decide +kernel) rfl (Nat.le_of_ble_eq_true rfl) (loc := [some (.ref a0), some (.ref a1), none, none]) rfl ?_
  unfold P_D_spendHour
  refine y_aload_n d_D_spendHour_0 rfl ?_
  refine y_aload_n d_D_spendHour_1 rfl ?_
  refine y_getI d_D_spendHour_2 f_D_23 (fun v1 => ?_)
  refine y_gO (fun fs1 g1 => y_cI (c_vi (rest := []) d_D_spendHour_5 k_S_floatsAt s_D_99 (Or.inl ⟨_, _, _, g1, rfl, rfl⟩) rfl rfl (Nat.le_of_ble_eq_true rfl) (Nat.le_trans (Nat.le_of_ble_eq_true rfl : 2 + 1 ≤ 3) hD) (S_S_floatsAt hfl (Nat.le_refl _) h a1 v1)) (fun v3 h2 => ?_))
  refine y_if_eq (tgt := 29) d_D_spendHour_8 (by decide) ?_ ?_
  · refine y_aload_n d_D_spendHour_29 rfl ?_
    refine y_getA d_D_spendHour_30 f_D_19 (fun v4 => ?_)
    refine y_aload_n d_D_spendHour_33 rfl ?_
    refine y_gO (fun fs1 g1 => y_cI (c_vi (rest := []) d_D_spendHour_34 k_B_beneathByBlocks s_D_160 (Or.inl ⟨_, _, _, g1, rfl, rfl⟩) rfl rfl (Nat.le_of_ble_eq_true rfl) (Nat.le_trans (Nat.le_of_ble_eq_true rfl : 2 + 1 ≤ 3) hD) (S_B_beneathByBlocks hfl (Nat.le_refl _) h2 v4 a1)) (fun v6 h5 => ?_))
    refine y_istore_n (loc2 := [some (.ref a0), some (.ref a1), some (.int v6), none]) d_D_spendHour_37 (Nat.le_of_ble_eq_true rfl) rfl rfl ?_
    refine y_iload_n d_D_spendHour_38 rfl ?_
    refine y_iconst (v := (J 2)) d_D_spendHour_39 rfl ?_
    refine y_icmp_ge (tgt := 61) d_D_spendHour_40 (by decide) ?_ ?_
    · refine y_aload_n d_D_spendHour_61 rfl ?_
      refine y_getI d_D_spendHour_62 f_D_106 (fun v7 => ?_)
      refine y_jn (C := fun (j9 : mH → Int32 → Option (Int32 × mH)) => ∀ (h9 : mH) (s10 : Int32), mY l Θ d M_D_spendHour 80 [some (.ref a0), some (.ref a1), some (.int v6), none] [.int s10] h9 (tR vI) (j9 h9 s10)) (fun h9 s10 => ?_) (fun j8 Hj8 => ?_)
      · refine y_istore_n (loc2 := [some (.ref a0), some (.ref a1), some (.int v6), some (.int s10)]) d_D_spendHour_80 (Nat.le_of_ble_eq_true rfl) rfl rfl ?_
        refine y_aload_n d_D_spendHour_81 rfl ?_
        refine y_dup d_D_spendHour_82 rfl ?_
        refine y_getI d_D_spendHour_83 f_D_166 (fun v11 => ?_)
        refine y_iload_n d_D_spendHour_86 rfl ?_
        refine y_isub (v := (v11 - s10)) d_D_spendHour_87 rfl ?_
        refine y_put d_D_spendHour_88 p_D_166 rfl rfl (fun h12 => ?_)
        refine y_aload_n d_D_spendHour_91 rfl ?_
        refine y_aload_n d_D_spendHour_92 rfl ?_
        refine y_iconst (v := (J 2)) d_D_spendHour_93 rfl ?_
        refine y_iload_n d_D_spendHour_94 rfl ?_
        refine y_iadd (v := ((J 2) + v6)) d_D_spendHour_95 rfl ?_
        refine y_iconst (v := (J 3)) d_D_spendHour_96 rfl ?_
        refine y_iload_n d_D_spendHour_97 rfl ?_
        refine y_imul (v := ((J 3) * s10)) d_D_spendHour_98 rfl ?_
        refine y_iadd (v := (((J 2) + v6) + ((J 3) * s10))) d_D_spendHour_99 rfl ?_
        refine y_gO (fun fs1 g1 => y_cU (c_vi (rest := []) d_D_spendHour_100 k_D_charge s_D_156 (Or.inl ⟨_, _, _, g1, rfl, rfl⟩) rfl rfl (Nat.le_of_ble_eq_true rfl) (Nat.le_trans (Nat.le_of_ble_eq_true rfl : 1 + 1 ≤ 3) hD) (S_D_charge hfl (Nat.le_refl _) h12 a0 a1 (((J 2) + v6) + ((J 3) * s10)))) (fun v14 h13 => ?_))
        refine y_iload_n d_D_spendHour_103 rfl ?_
        exact y_retI d_D_spendHour_104 rfl rfl
      · refine y_if_eq (tgt := 79) d_D_spendHour_65 (by decide) ?_ ?_
        · refine y_iconst (v := (J 0)) d_D_spendHour_79 rfl ?_
          exact Hj8 h5 (J 0)
        · refine y_iconst (v := (J 3)) d_D_spendHour_68 rfl ?_
          refine y_aload_n d_D_spendHour_69 rfl ?_
          refine y_getI d_D_spendHour_70 f_D_166 (fun v15 => ?_)
          refine y_mmin d_D_spendHour_73 s_D_147.1 s_D_147.2 k_MA_min.2.2.2.2.2 (mG (2, 239) (by decide +kernel)) (Nat.le_of_ble_eq_true rfl) (Nat.le_trans (Nat.le_of_ble_eq_true rfl) hD) ?_
          refine y_goto (tgt := 80) d_D_spendHour_76 (by decide) ?_
          exact Hj8 h5 (mnI (J 3) v15)
    · refine y_aload_n d_D_spendHour_43 rfl ?_
      refine y_dup d_D_spendHour_44 rfl ?_
      refine y_getI d_D_spendHour_45 f_D_163 (fun v16 => ?_)
      refine y_iconst (v := (J 1)) d_D_spendHour_48 rfl ?_
      refine y_iadd (v := (v16 + (J 1))) d_D_spendHour_49 rfl ?_
      refine y_put d_D_spendHour_50 p_D_163 rfl rfl (fun h17 => ?_)
      refine y_aload_n d_D_spendHour_53 rfl ?_
      refine y_aload_n d_D_spendHour_54 rfl ?_
      refine y_iconst (v := (J 2)) d_D_spendHour_55 rfl ?_
      refine y_gO (fun fs1 g1 => y_cU (c_vi (rest := []) d_D_spendHour_56 k_D_charge s_D_156 (Or.inl ⟨_, _, _, g1, rfl, rfl⟩) rfl rfl (Nat.le_of_ble_eq_true rfl) (Nat.le_trans (Nat.le_of_ble_eq_true rfl : 1 + 1 ≤ 3) hD) (S_D_charge hfl (Nat.le_refl _) h17 a0 a1 (J 2))) (fun v19 h18 => ?_))
      refine y_iconst (v := (J 0)) d_D_spendHour_59 rfl ?_
      exact y_retI d_D_spendHour_60 rfl rfl
  · refine y_aload_n d_D_spendHour_11 rfl ?_
    refine y_dup d_D_spendHour_12 rfl ?_
    refine y_getI d_D_spendHour_13 f_D_153 (fun v20 => ?_)
    refine y_iconst (v := (J 1)) d_D_spendHour_16 rfl ?_
    refine y_iadd (v := (v20 + (J 1))) d_D_spendHour_17 rfl ?_
    refine y_put d_D_spendHour_18 p_D_153 rfl rfl (fun h21 => ?_)
    refine y_aload_n d_D_spendHour_21 rfl ?_
    refine y_aload_n d_D_spendHour_22 rfl ?_
    refine y_iconst (v := (J 2)) d_D_spendHour_23 rfl ?_
    refine y_gO (fun fs1 g1 => y_cU (c_vi (rest := []) d_D_spendHour_24 k_D_charge s_D_156 (Or.inl ⟨_, _, _, g1, rfl, rfl⟩) rfl rfl (Nat.le_of_ble_eq_true rfl) (Nat.le_trans (Nat.le_of_ble_eq_true rfl : 1 + 1 ≤ 3) hD) (S_D_charge hfl (Nat.le_refl _) h21 a0 a1 (J 2))) (fun v23 h22 => ?_))
    refine y_iconst (v := (J 0)) d_D_spendHour_27 rfl ?_
    exact y_retI d_D_spendHour_28 rfl rfl
noncomputable def B_D_passHour_30 (Θ : mW) (N : Nat) (K78 : mH → Int32 → Option (Int32 × mH)) (f0_ : Nat) (rc : mH → Int32 → Int32 → Option (Int32 × mH)) (h : mH) (v1_ : Int32) (v2_ : Int32) : Option (Int32 × mH) :=
  (bo (rA Θ h 1 f0_ 0) (fun v8 => (bo (rI Θ h 2 v8 1) (fun v9 => (if v9 ≤ v2_ then (K78 h v1_) else (bo (rA Θ h 1 f0_ 0) (fun v10 => (bo (rA Θ h 2 v10 0) (fun v11 => (bo (aRQ Θ h 5 v11 v2_) (fun v12 => (gO Θ h 3 v12 (bc (P_S_isDocked Θ N h v12) (fun v14 h13 => (jn (fun (h16 : mH) (u17 : Int32) => (rc h16 u17 (v2_ + (J 1)))) (fun j15 => (if v14 = 0 then (j15 h13 v1_) else (bo (rA Θ h13 1 f0_ 0) (fun v18 => (bo (rA Θ h13 2 v18 0) (fun v19 => (bo (aRQ Θ h13 5 v19 v2_) (fun v20 => (gO Θ h13 1 f0_ (bc (P_D_spendHour Θ N h13 f0_ v20) (fun v22 h21 => (j15 h21 (v1_ + v22))))))))))))))))))))))))))))
noncomputable def P_D_passHour_30 (Θ : mW) (N : Nat) (K78 : mH → Int32 → Option (Int32 × mH)) (f0_ : Nat) : Nat → mH → Int32 → Int32 → Option (Int32 × mH) :=
  lp (fun _ _ _ => none) (B_D_passHour_30 Θ N K78 f0_)
noncomputable def P_D_passHour (Θ : mW) (N : Nat) (h : mH) (a0 : Nat) : Option (Int32 × mH) :=
  (bo (rI Θ h 1 a0 5) (fun v1 => (bo (wF Θ h 1 a0 5 (.int (v1 + (J 1)))) (fun h2 => (bo (rI Θ h2 1 a0 5) (fun v3 => (bo (rI Θ h2 1 a0 2) (fun v4 => (gO Θ h2 1 a0 (bc (P_D_levelInHour Θ N h2 a0 v3 v4) (fun v6 h5 => (bo (wF Θ h5 1 a0 2 (.int v6)) (fun h7 => (P_D_passHour_30 Θ N (fun h23 u24 => (some (u24, h23))) a0 N h7 (J 0) (J 0)))))))))))))))
theorem SB_D_passHour_30 (hfl : HF l Θ) (hD : 4 ≤ d) {K78 : mH → Int32 → Option (Int32 × mH)} {f0_ : Nat}  (hK78 : ∀ (h : mH) (v1_ : Int32), mY l Θ d M_D_passHour 78 [none, some (.int v1_), none] [] h (tR vI) (K78 h v1_)) (rc : mH → Int32 → Int32 → Option (Int32 × mH)) (ih : ∀ (h : mH) (v1_ : Int32) (v2_ : Int32), mY l Θ d M_D_passHour 30 [some (.ref f0_), some (.int v1_), some (.int v2_)] [] h (tR vI) (rc h v1_ v2_)) : ∀ (h : mH) (v1_ : Int32) (v2_ : Int32), mY l Θ d M_D_passHour 30 [some (.ref f0_), some (.int v1_), some (.int v2_)] [] h (tR vI) (B_D_passHour_30 Θ N K78 f0_ rc h v1_ v2_) := by
  intro h v1_ v2_
  unfold B_D_passHour_30
  refine y_iload_n d_D_passHour_30 rfl ?_
  refine y_aload_n d_D_passHour_31 rfl ?_
  refine y_getA d_D_passHour_32 f_D_10 (fun v8 => ?_)
  refine y_getI d_D_passHour_35 f_D_136 (fun v9 => ?_)
  refine y_icmp_ge (tgt := 78) d_D_passHour_38 (by decide) ?_ ?_
  · exact y_wk (loc2 := [none, some (.int v1_), none]) ⟨rfl, trivial⟩ (hK78 h v1_)
  · refine y_aload_n d_D_passHour_41 rfl ?_
    refine y_getA d_D_passHour_42 f_D_10 (fun v10 => ?_)
    refine y_getA d_D_passHour_45 f_D_139 (fun v11 => ?_)
    refine y_iload_n d_D_passHour_48 rfl ?_
    refine y_qald (Or.inl rfl) d_D_passHour_49 (fun v12 => ?_)
    refine y_gO (fun fs1 g1 => y_cI (c_vi (rest := []) d_D_passHour_50 k_S_isDocked s_D_66 (Or.inl ⟨_, _, _, g1, rfl, rfl⟩) rfl rfl (Nat.le_of_ble_eq_true rfl) (Nat.le_trans (Nat.le_of_ble_eq_true rfl : 1 + 1 ≤ 4) hD) (S_S_isDocked hfl (Nat.le_refl _) h v12)) (fun v14 h13 => ?_))
    refine y_jn (C := fun (j9 : mH → Int32 → Option (Int32 × mH)) => ∀ (h16 : mH) (u17 : Int32), mY l Θ d M_D_passHour 72 [some (.ref f0_), some (.int u17), some (.int v2_)] [] h16 (tR vI) (j9 h16 u17)) (fun h16 u17 => ?_) (fun j15 Hj15 => ?_)
    · refine y_iinc (v := (v2_ + (J 1))) (loc2 := [some (.ref f0_), some (.int u17), some (.int (v2_ + (J 1)))]) d_D_passHour_72 rfl rfl (Nat.le_of_ble_eq_true rfl) rfl rfl ?_
      refine y_goto (tgt := 30) d_D_passHour_75 (by decide) ?_
      exact ih h16 u17 (v2_ + (J 1))
    · refine y_if_eq (tgt := 72) d_D_passHour_53 (by decide) ?_ ?_
      · exact Hj15 h13 v1_
      · refine y_iload_n d_D_passHour_56 rfl ?_
        refine y_aload_n d_D_passHour_57 rfl ?_
        refine y_aload_n d_D_passHour_58 rfl ?_
        refine y_getA d_D_passHour_59 f_D_10 (fun v18 => ?_)
        refine y_getA d_D_passHour_62 f_D_139 (fun v19 => ?_)
        refine y_iload_n d_D_passHour_65 rfl ?_
        refine y_qald (Or.inl rfl) d_D_passHour_66 (fun v20 => ?_)
        refine y_gO (fun fs1 g1 => y_cI (c_vi (rest := [.int v1_]) d_D_passHour_67 k_D_spendHour s_D_143 (Or.inl ⟨_, _, _, g1, rfl, rfl⟩) rfl rfl (Nat.le_of_ble_eq_true rfl) (Nat.le_trans (Nat.le_of_ble_eq_true rfl : 3 + 1 ≤ 4) hD) (S_D_spendHour hfl (Nat.le_refl _) h13 f0_ v20)) (fun v22 h21 => ?_))
        refine y_iadd (v := (v1_ + v22)) d_D_passHour_70 rfl ?_
        refine y_istore_n (loc2 := [some (.ref f0_), some (.int (v1_ + v22)), some (.int v2_)]) d_D_passHour_71 (Nat.le_of_ble_eq_true rfl) rfl rfl ?_
        exact Hj15 h21 (v1_ + v22)
theorem S_D_passHour_30 (hfl : HF l Θ) (hD : 4 ≤ d) {K78 : mH → Int32 → Option (Int32 × mH)} {f0_ : Nat}  (hK78 : ∀ (h : mH) (v1_ : Int32), mY l Θ d M_D_passHour 78 [none, some (.int v1_), none] [] h (tR vI) (K78 h v1_)) : ∀ (n : Nat) (h : mH) (v1_ : Int32) (v2_ : Int32), mY l Θ d M_D_passHour 30 [some (.ref f0_), some (.int v1_), some (.int v2_)] [] h (tR vI) (P_D_passHour_30 Θ N K78 f0_ n h v1_ v2_) :=
  fun n => lp_all (C := fun (rc : mH → Int32 → Int32 → Option (Int32 × mH)) => ∀ (h : mH) (v1_ : Int32) (v2_ : Int32), mY l Θ d M_D_passHour 30 [some (.ref f0_), some (.int v1_), some (.int v2_)] [] h (tR vI) (rc h v1_ v2_)) (fun _ _ _ => y_none) (fun rc ih => SB_D_passHour_30 hfl hD hK78 rc ih) n
theorem S_D_passHour (hfl : HF l Θ) (hD : 4 ≤ d) (h : mH) (a0 : Nat) : mMs l Θ d M_D_passHour [.ref a0] h (tR vI) (P_D_passHour Θ N h a0) := by
  refine mMs.of hfl (by decide +kernel) rfl (Nat.le_of_ble_eq_true rfl) (loc := [some (.ref a0), none, none]) rfl ?_
  unfold P_D_passHour
  refine y_aload_n d_D_passHour_0 rfl ?_
  refine y_dup d_D_passHour_1 rfl ?_
  refine y_getI d_D_passHour_2 f_D_34 (fun v1 => ?_)
  refine y_iconst (v := (J 1)) d_D_passHour_5 rfl ?_
  refine y_iadd (v := (v1 + (J 1))) d_D_passHour_6 rfl ?_
  refine y_put d_D_passHour_7 p_D_34 rfl rfl (fun h2 => ?_)
  refine y_aload_n d_D_passHour_10 rfl ?_
  refine y_aload_n d_D_passHour_11 rfl ?_
  refine y_aload_n d_D_passHour_12 rfl ?_
  refine y_getI d_D_passHour_13 f_D_34 (fun v3 => ?_)
  refine y_aload_n d_D_passHour_16 rfl ?_
  refine y_getI d_D_passHour_17 f_D_23 (fun v4 => ?_)
  refine y_gO (fun fs1 g1 => y_cI (c_vi (rest := [.ref a0]) d_D_passHour_20 k_D_levelInHour s_D_132 (Or.inl ⟨_, _, _, g1, rfl, rfl⟩) rfl rfl (Nat.le_of_ble_eq_true rfl) (Nat.le_trans (Nat.le_of_ble_eq_true rfl : 2 + 1 ≤ 4) hD) (S_D_levelInHour hfl (Nat.le_refl _) h2 a0 v3 v4)) (fun v6 h5 => ?_))
  refine y_put d_D_passHour_23 p_D_23 rfl rfl (fun h7 => ?_)
  refine y_iconst (v := (J 0)) d_D_passHour_26 rfl ?_
  refine y_istore_n (loc2 := [some (.ref a0), some (.int (J 0)), none]) d_D_passHour_27 (Nat.le_of_ble_eq_true rfl) rfl rfl ?_
  refine y_iconst (v := (J 0)) d_D_passHour_28 rfl ?_
  refine y_istore_n (loc2 := [some (.ref a0), some (.int (J 0)), some (.int (J 0))]) d_D_passHour_29 (Nat.le_of_ble_eq_true rfl) rfl rfl ?_
  refine S_D_passHour_30 hfl hD (fun h23 u24 => ?_) N h7 (J 0) (J 0)
  refine y_iload_n d_D_passHour_78 rfl ?_
  exact y_retI d_D_passHour_79 rfl rfl
noncomputable def B_D_letPass_25 (Θ : mW) (N : Nat) (K43 : mH → Int32 → Option ((Int32 ⊕ Nat) × mH)) (f0_ : Nat) (f1_ : Int32) (rc : mH → Int32 → Int32 → Option ((Int32 ⊕ Nat) × mH)) (h : mH) (v2_ : Int32) (v3_ : Int32) : Option ((Int32 ⊕ Nat) × mH) :=
  (if f1_ ≤ v3_ then (K43 h v2_) else (gO Θ h 1 f0_ (bc (P_D_passHour Θ N h f0_) (fun v2 h1 => (rc h1 (v2_ + v2) (v3_ + (J 1)))))))
noncomputable def P_D_letPass_25 (Θ : mW) (N : Nat) (K43 : mH → Int32 → Option ((Int32 ⊕ Nat) × mH)) (f0_ : Nat) (f1_ : Int32) : Nat → mH → Int32 → Int32 → Option ((Int32 ⊕ Nat) × mH) :=
  lp (fun _ _ _ => none) (B_D_letPass_25 Θ N K43 f0_ f1_)
noncomputable def P_D_letPass (Θ : mW) (N : Nat) (h : mH) (a0 : Nat) (a1 : Int32) : Option ((Int32 ⊕ Nat) × mH) :=
  (if a1 < (J 1) then (xp 11 (h ++ [oB 11 []])) else (if a1 ≤ (J 48) then (P_D_letPass_25 Θ N (fun h3 u4 => (some (.inl u4, h3))) a0 a1 N h (J 0) (J 0)) else (xp 11 (h ++ [oB 11 []]))))
theorem SB_D_letPass_25 (hfl : HF l Θ) (hD : 6 ≤ d) {K43 : mH → Int32 → Option ((Int32 ⊕ Nat) × mH)} {f0_ : Nat} {f1_ : Int32}  (hK43 : ∀ (h : mH) (v2_ : Int32), mY l Θ d M_D_letPass 43 [none, none, some (.int v2_), none] [] h (tX vI) (K43 h v2_)) (rc : mH → Int32 → Int32 → Option ((Int32 ⊕ Nat) × mH)) (ih : ∀ (h : mH) (v2_ : Int32) (v3_ : Int32), mY l Θ d M_D_letPass 25 [some (.ref f0_), some (.int f1_), some (.int v2_), some (.int v3_)] [] h (tX vI) (rc h v2_ v3_)) : ∀ (h : mH) (v2_ : Int32) (v3_ : Int32), mY l Θ d M_D_letPass 25 [some (.ref f0_), some (.int f1_), some (.int v2_), some (.int v3_)] [] h (tX vI) (B_D_letPass_25 Θ N K43 f0_ f1_ rc h v2_ v3_) := by
  intro h v2_ v3_
  unfold B_D_letPass_25
  refine y_iload_n d_D_letPass_25 rfl ?_
  refine y_iload_n d_D_letPass_26 rfl ?_
  refine y_icmp_ge (tgt := 43) d_D_letPass_27 (by decide) ?_ ?_
  · exact y_wk (loc2 := [none, none, some (.int v2_), none]) ⟨rfl, trivial⟩ (hK43 h v2_)
  · refine y_iload_n d_D_letPass_30 rfl ?_
    refine y_aload_n d_D_letPass_31 rfl ?_
    refine y_gO (fun fs1 g1 => y_cI (c_vi (rest := [.int v2_]) d_D_letPass_32 k_D_passHour s_D_129 (Or.inl ⟨_, _, _, g1, rfl, rfl⟩) rfl rfl (Nat.le_of_ble_eq_true rfl) (Nat.le_trans (Nat.le_of_ble_eq_true rfl : 4 + 1 ≤ 6) hD) (S_D_passHour hfl (Nat.le_refl _) h f0_)) (fun v2 h1 => ?_))
    refine y_iadd (v := (v2_ + v2)) d_D_letPass_35 rfl ?_
    refine y_istore_n (loc2 := [some (.ref f0_), some (.int f1_), some (.int (v2_ + v2)), some (.int v3_)]) d_D_letPass_36 (Nat.le_of_ble_eq_true rfl) rfl rfl ?_
    refine y_iinc (v := (v3_ + (J 1))) (loc2 := [some (.ref f0_), some (.int f1_), some (.int (v2_ + v2)), some (.int (v3_ + (J 1)))]) d_D_letPass_37 rfl rfl (Nat.le_of_ble_eq_true rfl) rfl rfl ?_
    refine y_goto (tgt := 25) d_D_letPass_40 (by decide) ?_
    exact ih h1 (v2_ + v2) (v3_ + (J 1))
theorem S_D_letPass_25 (hfl : HF l Θ) (hD : 6 ≤ d) {K43 : mH → Int32 → Option ((Int32 ⊕ Nat) × mH)} {f0_ : Nat} {f1_ : Int32}  (hK43 : ∀ (h : mH) (v2_ : Int32), mY l Θ d M_D_letPass 43 [none, none, some (.int v2_), none] [] h (tX vI) (K43 h v2_)) : ∀ (n : Nat) (h : mH) (v2_ : Int32) (v3_ : Int32), mY l Θ d M_D_letPass 25 [some (.ref f0_), some (.int f1_), some (.int v2_), some (.int v3_)] [] h (tX vI) (P_D_letPass_25 Θ N K43 f0_ f1_ n h v2_ v3_) :=
  fun n => lp_all (C := fun (rc : mH → Int32 → Int32 → Option ((Int32 ⊕ Nat) × mH)) => ∀ (h : mH) (v2_ : Int32) (v3_ : Int32), mY l Θ d M_D_letPass 25 [some (.ref f0_), some (.int f1_), some (.int v2_), some (.int v3_)] [] h (tX vI) (rc h v2_ v3_)) (fun _ _ _ => y_none) (fun rc ih => SB_D_letPass_25 hfl hD hK43 rc ih) n
theorem S_D_letPass (hfl : HF l Θ) (hD : 6 ≤ d) (h : mH) (a0 : Nat) (a1 : Int32) : mMs l Θ d M_D_letPass [.ref a0, .int a1] h (tX vI) (P_D_letPass Θ N h a0 a1) := by
  refine mMs.of hfl (by decide +kernel) rfl (Nat.le_of_ble_eq_true rfl) (loc := [some (.ref a0), some (.int a1), none, none]) rfl ?_
  unfold P_D_letPass
  refine y_iload_n d_D_letPass_0 rfl ?_
  refine y_iconst (v := (J 1)) d_D_letPass_1 rfl ?_
  refine y_icmp_lt (tgt := 11) d_D_letPass_2 (by decide) ?_ ?_
  · exact y_throw rfl d_D_letPass_11 d_D_letPass_14 d_D_letPass_15 d_D_letPass_17 d_D_letPass_20 mExc_11 y_D_59 x_D_63 (List.mem_of_getElem? (i := 11) rfl) (Nat.le_of_ble_eq_true rfl) (Nat.le_trans (Nat.le_of_ble_eq_true rfl) hD)
  · refine y_iload_n d_D_letPass_5 rfl ?_
    refine y_bipush (v := (J 48)) d_D_letPass_6 (by decide +kernel) ?_
    refine y_icmp_le (tgt := 21) d_D_letPass_8 (by decide) ?_ ?_
    · refine y_iconst (v := (J 0)) d_D_letPass_21 rfl ?_
      refine y_istore_n (loc2 := [some (.ref a0), some (.int a1), some (.int (J 0)), none]) d_D_letPass_22 (Nat.le_of_ble_eq_true rfl) rfl rfl ?_
      refine y_iconst (v := (J 0)) d_D_letPass_23 rfl ?_
      refine y_istore_n (loc2 := [some (.ref a0), some (.int a1), some (.int (J 0)), some (.int (J 0))]) d_D_letPass_24 (Nat.le_of_ble_eq_true rfl) rfl rfl ?_
      refine S_D_letPass_25 hfl hD (fun h3 u4 => ?_) N h (J 0) (J 0)
      refine y_iload_n d_D_letPass_43 rfl ?_
      exact y_retIX d_D_letPass_44 rfl rfl
    · exact y_throw rfl d_D_letPass_11 d_D_letPass_14 d_D_letPass_15 d_D_letPass_17 d_D_letPass_20 mExc_11 y_D_59 x_D_63 (List.mem_of_getElem? (i := 11) rfl) (Nat.le_of_ble_eq_true rfl) (Nat.le_trans (Nat.le_of_ble_eq_true rfl) hD)
noncomputable def P_D_checkWorkAt (Θ : mW) (N : Nat) (h : mH) (a0 : Nat) (a1 : Int32) : Option ((Unit ⊕ Nat) × mH) :=
  (bo (rI Θ h 1 a0 2) (fun v1 => (if (J 30) < v1 then (xp 13 (h ++ [oB 13 []])) else (bo (rA Θ h 1 a0 0) (fun v2 => (gO Θ h 2 v2 (bn (P_L_overlapping Θ N h v2 a1 (J 1)) (fun v4 h3 => (xp 13 (h3 ++ [oB 13 []]))) (fun h5 => (some (.inl (), h5))))))))))
theorem S_D_checkWorkAt (hfl : HF l Θ) (hD : 6 ≤ d) (h : mH) (a0 : Nat) (a1 : Int32) : mMs l Θ d M_D_checkWorkAt [.ref a0, .int a1] h (tX vU) (P_D_checkWorkAt Θ N h a0 a1) := by
  refine mMs.of hfl (by decide +kernel) rfl (Nat.le_of_ble_eq_true rfl) (loc := [some (.ref a0), some (.int a1)]) rfl ?_
  unfold P_D_checkWorkAt
  refine y_aload_n d_D_checkWorkAt_0 rfl ?_
  refine y_getI d_D_checkWorkAt_1 f_D_23 (fun v1 => ?_)
  refine y_bipush (v := (J 30)) d_D_checkWorkAt_4 (by decide +kernel) ?_
  refine y_icmp_gt (tgt := 21) d_D_checkWorkAt_6 (by decide) ?_ ?_
  · exact y_throw rfl d_D_checkWorkAt_21 d_D_checkWorkAt_24 d_D_checkWorkAt_25 d_D_checkWorkAt_27 d_D_checkWorkAt_30 mExc_13 y_D_120 x_D_124 (List.mem_of_getElem? (i := 14) rfl) (Nat.le_of_ble_eq_true rfl) (Nat.le_trans (Nat.le_of_ble_eq_true rfl) hD)
  · refine y_aload_n d_D_checkWorkAt_9 rfl ?_
    refine y_getA d_D_checkWorkAt_10 f_D_10 (fun v2 => ?_)
    refine y_iload_n d_D_checkWorkAt_13 rfl ?_
    refine y_iconst (v := (J 1)) d_D_checkWorkAt_14 rfl ?_
    refine y_gO (fun fs1 g1 => y_cN (c_vi (rest := []) d_D_checkWorkAt_15 k_L_overlapping s_D_79 (Or.inl ⟨_, _, _, g1, rfl, rfl⟩) rfl rfl (Nat.le_of_ble_eq_true rfl) (Nat.le_trans (Nat.le_of_ble_eq_true rfl : 2 + 1 ≤ 6) hD) (S_L_overlapping hfl (Nat.le_refl _) h v2 a1 (J 1))) (fun v4 h3 => ?_) (fun h5 => ?_))
    · refine y_ifnull d_D_checkWorkAt_18 ?_
      exact y_throw rfl d_D_checkWorkAt_21 d_D_checkWorkAt_24 d_D_checkWorkAt_25 d_D_checkWorkAt_27 d_D_checkWorkAt_30 mExc_13 y_D_120 x_D_124 (List.mem_of_getElem? (i := 14) rfl) (Nat.le_of_ble_eq_true rfl) (Nat.le_trans (Nat.le_of_ble_eq_true rfl) hD)
    · refine y_ifnullN (tgt := 31) d_D_checkWorkAt_18 (by decide) ?_
      exact y_retUX d_D_checkWorkAt_31 rfl
noncomputable def P_D_addBlock (Θ : mW) (N : Nat) (h : mH) (a0 : Nat) (a1 : Int32) : Option ((Int32 ⊕ Nat) × mH) :=
  (bx (P_B_checkPosition Θ N h a1) (fun v2 h1 => (bo (rA Θ h1 1 a0 1) (fun v3 => (gO Θ h1 4 v3 (bc (P_B_isFull Θ N h1 v3) (fun v5 h4 => (if v5 = 0 then (bo (rA Θ h4 1 a0 1) (fun v6 => (gO Θ h4 4 v6 (bc (P_B_isAt Θ N h4 v6 a1) (fun v8 h7 => (if v8 = 0 then (gO Θ h7 1 a0 (bx (P_D_checkWorkAt Θ N h7 a0 a1) (fun v10 h9 => (bo (rA Θ h9 1 a0 1) (fun v11 => (gO Θ h9 4 v11 (bc (P_B_add Θ N h9 v11 a1) (fun v13 h12 => (bo (rA Θ h12 1 a0 1) (fun v14 => (bo (rI Θ h12 4 v14 1) (fun v15 => (some (.inl v15, h12)))))))))))) (fun n9 h9 => xp n9 h9))) else (xp 12 (h7 ++ [oB 12 []])))))))) else (xp 12 (h4 ++ [oB 12 []]))))))))) (fun n9 h9 => xp n9 h9))
theorem S_D_addBlock (hfl : HF l Θ) (hD : 7 ≤ d) (h : mH) (a0 : Nat) (a1 : Int32) : mMs l Θ d M_D_addBlock [.ref a0, .int a1] h (tX vI) (P_D_addBlock Θ N h a0 a1) := by
  refine mMs.of hfl (by decide +kernel) rfl (Nat.le_of_ble_eq_true rfl) (loc := [some (.ref a0), some (.int a1)]) rfl ?_
  unfold P_D_addBlock
  refine y_iload_n d_D_addBlock_0 rfl ?_
  refine y_xU (c_st (rest := []) d_D_addBlock_1 k_B_checkPosition s_D_171 rfl rfl (Nat.le_of_ble_eq_true rfl) (Nat.le_trans (Nat.le_of_ble_eq_true rfl : 6 + 1 ≤ 7) hD) (S_B_checkPosition hfl (Nat.le_refl _) h a1)) (fun v2 h1 => ?_) (fun _ _ => y_hp rfl)
  refine y_aload_n d_D_addBlock_4 rfl ?_
  refine y_getA d_D_addBlock_5 f_D_19 (fun v3 => ?_)
  refine y_gO (fun fs1 g1 => y_cI (c_vi (rest := []) d_D_addBlock_8 k_B_isFull s_D_174 (Or.inl ⟨_, _, _, g1, rfl, rfl⟩) rfl rfl (Nat.le_of_ble_eq_true rfl) (Nat.le_trans (Nat.le_of_ble_eq_true rfl : 1 + 1 ≤ 7) hD) (S_B_isFull hfl (Nat.le_refl _) h1 v3)) (fun v5 h4 => ?_))
  refine y_if_ne (tgt := 25) d_D_addBlock_11 (by decide) ?_ ?_
  · exact y_throw rfl d_D_addBlock_25 d_D_addBlock_28 d_D_addBlock_29 d_D_addBlock_31 d_D_addBlock_34 mExc_12 y_D_70 x_D_74 (List.mem_of_getElem? (i := 13) rfl) (Nat.le_of_ble_eq_true rfl) (Nat.le_trans (Nat.le_of_ble_eq_true rfl) hD)
  · refine y_aload_n d_D_addBlock_14 rfl ?_
    refine y_getA d_D_addBlock_15 f_D_19 (fun v6 => ?_)
    refine y_iload_n d_D_addBlock_18 rfl ?_
    refine y_gO (fun fs1 g1 => y_cI (c_vi (rest := []) d_D_addBlock_19 k_B_isAt s_D_177 (Or.inl ⟨_, _, _, g1, rfl, rfl⟩) rfl rfl (Nat.le_of_ble_eq_true rfl) (Nat.le_trans (Nat.le_of_ble_eq_true rfl : 2 + 1 ≤ 7) hD) (S_B_isAt hfl (Nat.le_refl _) h4 v6 a1)) (fun v8 h7 => ?_))
    refine y_if_eq (tgt := 35) d_D_addBlock_22 (by decide) ?_ ?_
    · refine y_aload_n d_D_addBlock_35 rfl ?_
      refine y_iload_n d_D_addBlock_36 rfl ?_
      refine y_gO (fun fs1 g1 => y_xU (c_vi (rest := []) d_D_addBlock_37 k_D_checkWorkAt s_D_182 (Or.inl ⟨_, _, _, g1, rfl, rfl⟩) rfl rfl (Nat.le_of_ble_eq_true rfl) (Nat.le_trans (Nat.le_of_ble_eq_true rfl : 6 + 1 ≤ 7) hD) (S_D_checkWorkAt hfl (Nat.le_refl _) h7 a0 a1)) (fun v10 h9 => ?_) (fun _ _ => y_hp rfl))
      refine y_aload_n d_D_addBlock_40 rfl ?_
      refine y_getA d_D_addBlock_41 f_D_19 (fun v11 => ?_)
      refine y_iload_n d_D_addBlock_44 rfl ?_
      refine y_gO (fun fs1 g1 => y_cU (c_vi (rest := []) d_D_addBlock_45 k_B_add s_D_185 (Or.inl ⟨_, _, _, g1, rfl, rfl⟩) rfl rfl (Nat.le_of_ble_eq_true rfl) (Nat.le_trans (Nat.le_of_ble_eq_true rfl : 2 + 1 ≤ 7) hD) (S_B_add hfl (Nat.le_refl _) h9 v11 a1)) (fun v13 h12 => ?_))
      refine y_aload_n d_D_addBlock_48 rfl ?_
      refine y_getA d_D_addBlock_49 f_D_19 (fun v14 => ?_)
      refine y_getI d_D_addBlock_52 f_D_188 (fun v15 => ?_)
      exact y_retIX d_D_addBlock_55 rfl rfl
    · exact y_throw rfl d_D_addBlock_25 d_D_addBlock_28 d_D_addBlock_29 d_D_addBlock_31 d_D_addBlock_34 mExc_12 y_D_70 x_D_74 (List.mem_of_getElem? (i := 13) rfl) (Nat.le_of_ble_eq_true rfl) (Nat.le_trans (Nat.le_of_ble_eq_true rfl) hD)
noncomputable def P_D_takeBlock (Θ : mW) (N : Nat) (h : mH) (a0 : Nat) (a1 : Int32) : Option ((Int32 ⊕ Nat) × mH) :=
  (bx (P_B_checkPosition Θ N h a1) (fun v2 h1 => (bo (rA Θ h1 1 a0 1) (fun v3 => (gO Θ h1 4 v3 (bc (P_B_isAt Θ N h1 v3 a1) (fun v5 h4 => (if v5 = 0 then (xp 10 (h4 ++ [oB 10 []])) else (gO Θ h4 1 a0 (bx (P_D_checkWorkAt Θ N h4 a0 a1) (fun v7 h6 => (bo (rA Θ h6 1 a0 1) (fun v8 => (gO Θ h6 4 v8 (bc (P_B_remove Θ N h6 v8 a1) (fun v10 h9 => (bo (rA Θ h9 1 a0 1) (fun v11 => (bo (rI Θ h9 4 v11 1) (fun v12 => (some (.inl v12, h9)))))))))))) (fun n9 h9 => xp n9 h9)))))))))) (fun n9 h9 => xp n9 h9))
theorem S_D_takeBlock (hfl : HF l Θ) (hD : 7 ≤ d) (h : mH) (a0 : Nat) (a1 : Int32) : mMs l Θ d M_D_takeBlock [.ref a0, .int a1] h (tX vI) (P_D_takeBlock Θ N h a0 a1) := by
  refine mMs.of hfl (by decide +kernel) rfl (Nat.le_of_ble_eq_true rfl) (loc := [some (.ref a0), some (.int a1)]) rfl ?_
  unfold P_D_takeBlock
  refine y_iload_n d_D_takeBlock_0 rfl ?_
  refine y_xU (c_st (rest := []) d_D_takeBlock_1 k_B_checkPosition s_D_171 rfl rfl (Nat.le_of_ble_eq_true rfl) (Nat.le_trans (Nat.le_of_ble_eq_true rfl : 6 + 1 ≤ 7) hD) (S_B_checkPosition hfl (Nat.le_refl _) h a1)) (fun v2 h1 => ?_) (fun _ _ => y_hp rfl)
  refine y_aload_n d_D_takeBlock_4 rfl ?_
  refine y_getA d_D_takeBlock_5 f_D_19 (fun v3 => ?_)
  refine y_iload_n d_D_takeBlock_8 rfl ?_
  refine y_gO (fun fs1 g1 => y_cI (c_vi (rest := []) d_D_takeBlock_9 k_B_isAt s_D_177 (Or.inl ⟨_, _, _, g1, rfl, rfl⟩) rfl rfl (Nat.le_of_ble_eq_true rfl) (Nat.le_trans (Nat.le_of_ble_eq_true rfl : 2 + 1 ≤ 7) hD) (S_B_isAt hfl (Nat.le_refl _) h1 v3 a1)) (fun v5 h4 => ?_))
  refine y_if_ne (tgt := 25) d_D_takeBlock_12 (by decide) ?_ ?_
  · refine y_aload_n d_D_takeBlock_25 rfl ?_
    refine y_iload_n d_D_takeBlock_26 rfl ?_
    refine y_gO (fun fs1 g1 => y_xU (c_vi (rest := []) d_D_takeBlock_27 k_D_checkWorkAt s_D_182 (Or.inl ⟨_, _, _, g1, rfl, rfl⟩) rfl rfl (Nat.le_of_ble_eq_true rfl) (Nat.le_trans (Nat.le_of_ble_eq_true rfl : 6 + 1 ≤ 7) hD) (S_D_checkWorkAt hfl (Nat.le_refl _) h4 a0 a1)) (fun v7 h6 => ?_) (fun _ _ => y_hp rfl))
    refine y_aload_n d_D_takeBlock_30 rfl ?_
    refine y_getA d_D_takeBlock_31 f_D_19 (fun v8 => ?_)
    refine y_iload_n d_D_takeBlock_34 rfl ?_
    refine y_gO (fun fs1 g1 => y_cU (c_vi (rest := []) d_D_takeBlock_35 k_B_remove s_D_194 (Or.inl ⟨_, _, _, g1, rfl, rfl⟩) rfl rfl (Nat.le_of_ble_eq_true rfl) (Nat.le_trans (Nat.le_of_ble_eq_true rfl : 2 + 1 ≤ 7) hD) (S_B_remove hfl (Nat.le_refl _) h6 v8 a1)) (fun v10 h9 => ?_))
    refine y_aload_n d_D_takeBlock_38 rfl ?_
    refine y_getA d_D_takeBlock_39 f_D_19 (fun v11 => ?_)
    refine y_getI d_D_takeBlock_42 f_D_188 (fun v12 => ?_)
    exact y_retIX d_D_takeBlock_45 rfl rfl
  · exact y_throw rfl d_D_takeBlock_15 d_D_takeBlock_18 d_D_takeBlock_19 d_D_takeBlock_21 d_D_takeBlock_24 mExc_10 y_D_189 x_D_193 (List.mem_of_getElem? (i := 15) rfl) (Nat.le_of_ble_eq_true rfl) (Nat.le_trans (Nat.le_of_ble_eq_true rfl) hD)
noncomputable def P_D_takeCoins (Θ : mW) (N : Nat) (h : mH) (a0 : Nat) (a1 : Int32) (a2 : Int32) : Option ((Int32 ⊕ Nat) × mH) :=
  (bo (rA Θ h 1 a0 0) (fun v1 => (gO Θ h 2 v1 (bx (P_L_known Θ N h v1 a1) (fun v3 h2 => (if a2 < (J 1) then (xp 11 (h2 ++ [oB 11 []])) else (if a2 ≤ (J 999) then (bo (rI Θ h2 3 v3 6) (fun v4 => (if a2 ≤ v4 then (bo (rI Θ h2 3 v3 6) (fun v5 => (bo (wF Θ h2 3 v3 6 (.int (v5 - a2))) (fun h6 => (bo (rI Θ h6 1 a0 7) (fun v7 => (bo (wF Θ h6 1 a0 7 (.int (v7 + a2))) (fun h8 => (bo (rI Θ h8 3 v3 6) (fun v9 => (some (.inl v9, h8)))))))))))) else (xp 12 (h2 ++ [oB 12 []]))))) else (xp 11 (h2 ++ [oB 11 []]))))) (fun n9 h9 => xp n9 h9)))))
theorem S_D_takeCoins (hfl : HF l Θ) (hD : 7 ≤ d) (h : mH) (a0 : Nat) (a1 : Int32) (a2 : Int32) : mMs l Θ d M_D_takeCoins [.ref a0, .int a1, .int a2] h (tX vI) (P_D_takeCoins Θ N h a0 a1 a2) := by
  refine mMs.of hfl (by decide +kernel) rfl (Nat.le_of_ble_eq_true rfl) (loc := [some (.ref a0), some (.int a1), some (.int a2), none]) rfl ?_
  unfold P_D_takeCoins
  refine y_aload_n d_D_takeCoins_0 rfl ?_
  refine y_getA d_D_takeCoins_1 f_D_10 (fun v1 => ?_)
  refine y_iload_n d_D_takeCoins_4 rfl ?_
  refine y_gO (fun fs1 g1 => y_xA (c_vi (rest := []) d_D_takeCoins_5 k_L_known s_D_50 (Or.inl ⟨_, _, _, g1, rfl, rfl⟩) rfl rfl (Nat.le_of_ble_eq_true rfl) (Nat.le_trans (Nat.le_of_ble_eq_true rfl : 6 + 1 ≤ 7) hD) (S_L_known hfl (Nat.le_refl _) h v1 a1)) (fun v3 h2 => ?_) (fun _ _ => y_hp rfl))
  refine y_astore_n (loc2 := [some (.ref a0), some (.int a1), some (.int a2), some (.ref v3)]) d_D_takeCoins_8 (Nat.le_of_ble_eq_true rfl) rfl rfl ?_
  refine y_iload_n d_D_takeCoins_9 rfl ?_
  refine y_iconst (v := (J 1)) d_D_takeCoins_10 rfl ?_
  refine y_icmp_lt (tgt := 21) d_D_takeCoins_11 (by decide) ?_ ?_
  · exact y_throw rfl d_D_takeCoins_21 d_D_takeCoins_24 d_D_takeCoins_25 d_D_takeCoins_27 d_D_takeCoins_30 mExc_11 y_D_59 x_D_63 (List.mem_of_getElem? (i := 16) rfl) (Nat.le_of_ble_eq_true rfl) (Nat.le_trans (Nat.le_of_ble_eq_true rfl) hD)
  · refine y_iload_n d_D_takeCoins_14 rfl ?_
    refine y_sipush (v := (J 999)) d_D_takeCoins_15 (by decide +kernel) ?_
    refine y_icmp_le (tgt := 31) d_D_takeCoins_18 (by decide) ?_ ?_
    · refine y_aload_n d_D_takeCoins_31 rfl ?_
      refine y_getI d_D_takeCoins_32 f_D_103 (fun v4 => ?_)
      refine y_iload_n d_D_takeCoins_35 rfl ?_
      refine y_icmp_ge (tgt := 49) d_D_takeCoins_36 (by decide) ?_ ?_
      · refine y_aload_n d_D_takeCoins_49 rfl ?_
        refine y_dup d_D_takeCoins_50 rfl ?_
        refine y_getI d_D_takeCoins_51 f_D_103 (fun v5 => ?_)
        refine y_iload_n d_D_takeCoins_54 rfl ?_
        refine y_isub (v := (v5 - a2)) d_D_takeCoins_55 rfl ?_
        refine y_put d_D_takeCoins_56 p_D_103 rfl rfl (fun h6 => ?_)
        refine y_aload_n d_D_takeCoins_59 rfl ?_
        refine y_dup d_D_takeCoins_60 rfl ?_
        refine y_getI d_D_takeCoins_61 f_D_40 (fun v7 => ?_)
        refine y_iload_n d_D_takeCoins_64 rfl ?_
        refine y_iadd (v := (v7 + a2)) d_D_takeCoins_65 rfl ?_
        refine y_put d_D_takeCoins_66 p_D_40 rfl rfl (fun h8 => ?_)
        refine y_aload_n d_D_takeCoins_69 rfl ?_
        refine y_getI d_D_takeCoins_70 f_D_103 (fun v9 => ?_)
        exact y_retIX d_D_takeCoins_73 rfl rfl
      · exact y_throw rfl d_D_takeCoins_39 d_D_takeCoins_42 d_D_takeCoins_43 d_D_takeCoins_45 d_D_takeCoins_48 mExc_12 y_D_70 x_D_74 (List.mem_of_getElem? (i := 17) rfl) (Nat.le_of_ble_eq_true rfl) (Nat.le_trans (Nat.le_of_ble_eq_true rfl) hD)
    · exact y_throw rfl d_D_takeCoins_21 d_D_takeCoins_24 d_D_takeCoins_25 d_D_takeCoins_27 d_D_takeCoins_30 mExc_11 y_D_59 x_D_63 (List.mem_of_getElem? (i := 16) rfl) (Nat.le_of_ble_eq_true rfl) (Nat.le_trans (Nat.le_of_ble_eq_true rfl) hD)
noncomputable def B_D_foreseenLevel_27 (Θ : mW) (N : Nat) (K50 : mH → Int32 → Option ((Int32 ⊕ Nat) × mH)) (f0_ : Nat) (f1_ : Int32) (rc : mH → Int32 → Int32 → Option ((Int32 ⊕ Nat) × mH)) (h : mH) (v2_ : Int32) (v3_ : Int32) : Option ((Int32 ⊕ Nat) × mH) :=
  (if f1_ < v3_ then (K50 h v2_) else (bo (rI Θ h 1 f0_ 5) (fun v2 => (gO Θ h 1 f0_ (bc (P_D_levelInHour Θ N h f0_ (v2 + v3_) v2_) (fun v4 h3 => (rc h3 v4 (v3_ + (J 1)))))))))
noncomputable def P_D_foreseenLevel_27 (Θ : mW) (N : Nat) (K50 : mH → Int32 → Option ((Int32 ⊕ Nat) × mH)) (f0_ : Nat) (f1_ : Int32) : Nat → mH → Int32 → Int32 → Option ((Int32 ⊕ Nat) × mH) :=
  lp (fun _ _ _ => none) (B_D_foreseenLevel_27 Θ N K50 f0_ f1_)
noncomputable def P_D_foreseenLevel (Θ : mW) (N : Nat) (h : mH) (a0 : Nat) (a1 : Int32) : Option ((Int32 ⊕ Nat) × mH) :=
  (if a1 < 0 then (xp 11 (h ++ [oB 11 []])) else (if a1 ≤ (J 96) then (bo (rI Θ h 1 a0 2) (fun v1 => (P_D_foreseenLevel_27 Θ N (fun h5 u6 => (some (.inl u6, h5))) a0 a1 N h v1 (J 1)))) else (xp 11 (h ++ [oB 11 []]))))
theorem SB_D_foreseenLevel_27 (hfl : HF l Θ) (hD : 6 ≤ d) {K50 : mH → Int32 → Option ((Int32 ⊕ Nat) × mH)} {f0_ : Nat} {f1_ : Int32}  (hK50 : ∀ (h : mH) (v2_ : Int32), mY l Θ d M_D_foreseenLevel 50 [none, none, some (.int v2_), none] [] h (tX vI) (K50 h v2_)) (rc : mH → Int32 → Int32 → Option ((Int32 ⊕ Nat) × mH)) (ih : ∀ (h : mH) (v2_ : Int32) (v3_ : Int32), mY l Θ d M_D_foreseenLevel 27 [some (.ref f0_), some (.int f1_), some (.int v2_), some (.int v3_)] [] h (tX vI) (rc h v2_ v3_)) : ∀ (h : mH) (v2_ : Int32) (v3_ : Int32), mY l Θ d M_D_foreseenLevel 27 [some (.ref f0_), some (.int f1_), some (.int v2_), some (.int v3_)] [] h (tX vI) (B_D_foreseenLevel_27 Θ N K50 f0_ f1_ rc h v2_ v3_) := by
  intro h v2_ v3_
  unfold B_D_foreseenLevel_27
  refine y_iload_n d_D_foreseenLevel_27 rfl ?_
  refine y_iload_n d_D_foreseenLevel_28 rfl ?_
  refine y_icmp_gt (tgt := 50) d_D_foreseenLevel_29 (by decide) ?_ ?_
  · exact y_wk (loc2 := [none, none, some (.int v2_), none]) ⟨rfl, trivial⟩ (hK50 h v2_)
  · refine y_aload_n d_D_foreseenLevel_32 rfl ?_
    refine y_aload_n d_D_foreseenLevel_33 rfl ?_
    refine y_getI d_D_foreseenLevel_34 f_D_34 (fun v2 => ?_)
    refine y_iload_n d_D_foreseenLevel_37 rfl ?_
    refine y_iadd (v := (v2 + v3_)) d_D_foreseenLevel_38 rfl ?_
    refine y_iload_n d_D_foreseenLevel_39 rfl ?_
    refine y_gO (fun fs1 g1 => y_cI (c_vi (rest := []) d_D_foreseenLevel_40 k_D_levelInHour s_D_132 (Or.inl ⟨_, _, _, g1, rfl, rfl⟩) rfl rfl (Nat.le_of_ble_eq_true rfl) (Nat.le_trans (Nat.le_of_ble_eq_true rfl : 2 + 1 ≤ 6) hD) (S_D_levelInHour hfl (Nat.le_refl _) h f0_ (v2 + v3_) v2_)) (fun v4 h3 => ?_))
    refine y_istore_n (loc2 := [some (.ref f0_), some (.int f1_), some (.int v4), some (.int v3_)]) d_D_foreseenLevel_43 (Nat.le_of_ble_eq_true rfl) rfl rfl ?_
    refine y_iinc (v := (v3_ + (J 1))) (loc2 := [some (.ref f0_), some (.int f1_), some (.int v4), some (.int (v3_ + (J 1)))]) d_D_foreseenLevel_44 rfl rfl (Nat.le_of_ble_eq_true rfl) rfl rfl ?_
    refine y_goto (tgt := 27) d_D_foreseenLevel_47 (by decide) ?_
    exact ih h3 v4 (v3_ + (J 1))
theorem S_D_foreseenLevel_27 (hfl : HF l Θ) (hD : 6 ≤ d) {K50 : mH → Int32 → Option ((Int32 ⊕ Nat) × mH)} {f0_ : Nat} {f1_ : Int32}  (hK50 : ∀ (h : mH) (v2_ : Int32), mY l Θ d M_D_foreseenLevel 50 [none, none, some (.int v2_), none] [] h (tX vI) (K50 h v2_)) : ∀ (n : Nat) (h : mH) (v2_ : Int32) (v3_ : Int32), mY l Θ d M_D_foreseenLevel 27 [some (.ref f0_), some (.int f1_), some (.int v2_), some (.int v3_)] [] h (tX vI) (P_D_foreseenLevel_27 Θ N K50 f0_ f1_ n h v2_ v3_) :=
  fun n => lp_all (C := fun (rc : mH → Int32 → Int32 → Option ((Int32 ⊕ Nat) × mH)) => ∀ (h : mH) (v2_ : Int32) (v3_ : Int32), mY l Θ d M_D_foreseenLevel 27 [some (.ref f0_), some (.int f1_), some (.int v2_), some (.int v3_)] [] h (tX vI) (rc h v2_ v3_)) (fun _ _ _ => y_none) (fun rc ih => SB_D_foreseenLevel_27 hfl hD hK50 rc ih) n
theorem S_D_foreseenLevel (hfl : HF l Θ) (hD : 6 ≤ d) (h : mH) (a0 : Nat) (a1 : Int32) : mMs l Θ d M_D_foreseenLevel [.ref a0, .int a1] h (tX vI) (P_D_foreseenLevel Θ N h a0 a1) := by
  refine mMs.of hfl (by decide +kernel) rfl (Nat.le_of_ble_eq_true rfl) (loc := [some (.ref a0), some (.int a1), none, none]) rfl ?_
  unfold P_D_foreseenLevel
  refine y_iload_n d_D_foreseenLevel_0 rfl ?_
  refine y_if_lt (tgt := 10) d_D_foreseenLevel_1 (by decide) ?_ ?_
  · exact y_throw rfl d_D_foreseenLevel_10 d_D_foreseenLevel_13 d_D_foreseenLevel_14 d_D_foreseenLevel_16 d_D_foreseenLevel_19 mExc_11 y_D_59 x_D_63 (List.mem_of_getElem? (i := 11) rfl) (Nat.le_of_ble_eq_true rfl) (Nat.le_trans (Nat.le_of_ble_eq_true rfl) hD)
  · refine y_iload_n d_D_foreseenLevel_4 rfl ?_
    refine y_bipush (v := (J 96)) d_D_foreseenLevel_5 (by decide +kernel) ?_
    refine y_icmp_le (tgt := 20) d_D_foreseenLevel_7 (by decide) ?_ ?_
    · refine y_aload_n d_D_foreseenLevel_20 rfl ?_
      refine y_getI d_D_foreseenLevel_21 f_D_23 (fun v1 => ?_)
      refine y_istore_n (loc2 := [some (.ref a0), some (.int a1), some (.int v1), none]) d_D_foreseenLevel_24 (Nat.le_of_ble_eq_true rfl) rfl rfl ?_
      refine y_iconst (v := (J 1)) d_D_foreseenLevel_25 rfl ?_
      refine y_istore_n (loc2 := [some (.ref a0), some (.int a1), some (.int v1), some (.int (J 1))]) d_D_foreseenLevel_26 (Nat.le_of_ble_eq_true rfl) rfl rfl ?_
      refine S_D_foreseenLevel_27 hfl hD (fun h5 u6 => ?_) N h v1 (J 1)
      refine y_iload_n d_D_foreseenLevel_50 rfl ?_
      exact y_retIX d_D_foreseenLevel_51 rfl rfl
    · exact y_throw rfl d_D_foreseenLevel_10 d_D_foreseenLevel_13 d_D_foreseenLevel_14 d_D_foreseenLevel_16 d_D_foreseenLevel_19 mExc_11 y_D_59 x_D_63 (List.mem_of_getElem? (i := 11) rfl) (Nat.le_of_ble_eq_true rfl) (Nat.le_trans (Nat.le_of_ble_eq_true rfl) hD)
noncomputable def B_D_hoursToFloat_17 (Θ : mW) (N : Nat) (K56 : mH → Option ((Int32 ⊕ Nat) × mH)) (f0_ : Nat) (f2_ : Nat) (rc : mH → Int32 → Int32 → Option ((Int32 ⊕ Nat) × mH)) (h : mH) (v3_ : Int32) (v4_ : Int32) : Option ((Int32 ⊕ Nat) × mH) :=
  (if (J 96) < v4_ then (K56 h) else (gO Θ h 3 f2_ (bc (P_S_floatsAt Θ N h f2_ v3_) (fun v6 h5 => (if v6 = 0 then (bo (rI Θ h5 1 f0_ 5) (fun v7 => (gO Θ h5 1 f0_ (bc (P_D_levelInHour Θ N h5 f0_ ((v7 + v4_) + (J 1)) v3_) (fun v9 h8 => (rc h8 v9 (v4_ + (J 1)))))))) else (some (.inl v4_, h5)))))))
noncomputable def P_D_hoursToFloat_17 (Θ : mW) (N : Nat) (K56 : mH → Option ((Int32 ⊕ Nat) × mH)) (f0_ : Nat) (f2_ : Nat) : Nat → mH → Int32 → Int32 → Option ((Int32 ⊕ Nat) × mH) :=
  lp (fun _ _ _ => none) (B_D_hoursToFloat_17 Θ N K56 f0_ f2_)
noncomputable def P_D_hoursToFloat (Θ : mW) (N : Nat) (h : mH) (a0 : Nat) (a1 : Int32) : Option ((Int32 ⊕ Nat) × mH) :=
  (bo (rA Θ h 1 a0 0) (fun v1 => (gO Θ h 2 v1 (bx (P_L_known Θ N h v1 a1) (fun v3 h2 => (bo (rI Θ h2 1 a0 2) (fun v4 => (P_D_hoursToFloat_17 Θ N (fun h10 => (xp 12 (h10 ++ [oB 12 []]))) a0 v3 N h2 v4 (J 0))))) (fun n9 h9 => xp n9 h9)))))
theorem SB_D_hoursToFloat_17 (hfl : HF l Θ) (hD : 7 ≤ d) {K56 : mH → Option ((Int32 ⊕ Nat) × mH)} {f0_ : Nat} {f2_ : Nat}  (hK56 : ∀ (h : mH), mY l Θ d M_D_hoursToFloat 56 [none, none, none, none, none] [] h (tX vI) (K56 h)) (rc : mH → Int32 → Int32 → Option ((Int32 ⊕ Nat) × mH)) (ih : ∀ (h : mH) (v3_ : Int32) (v4_ : Int32), mY l Θ d M_D_hoursToFloat 17 [some (.ref f0_), none, some (.ref f2_), some (.int v3_), some (.int v4_)] [] h (tX vI) (rc h v3_ v4_)) : ∀ (h : mH) (v3_ : Int32) (v4_ : Int32), mY l Θ d M_D_hoursToFloat 17 [some (.ref f0_), none, some (.ref f2_), some (.int v3_), some (.int v4_)] [] h (tX vI) (B_D_hoursToFloat_17 Θ N K56 f0_ f2_ rc h v3_ v4_) := by
  intro h v3_ v4_
  unfold B_D_hoursToFloat_17
  refine y_iload d_D_hoursToFloat_17 rfl ?_
  refine y_bipush (v := (J 96)) d_D_hoursToFloat_19 (by decide +kernel) ?_
  refine y_icmp_gt (tgt := 56) d_D_hoursToFloat_21 (by decide) ?_ ?_
  · exact y_wk (loc2 := [none, none, none, none, none]) trivial (hK56 h)
  · refine y_aload_n d_D_hoursToFloat_24 rfl ?_
    refine y_iload_n d_D_hoursToFloat_25 rfl ?_
    refine y_gO (fun fs1 g1 => y_cI (c_vi (rest := []) d_D_hoursToFloat_26 k_S_floatsAt s_D_99 (Or.inl ⟨_, _, _, g1, rfl, rfl⟩) rfl rfl (Nat.le_of_ble_eq_true rfl) (Nat.le_trans (Nat.le_of_ble_eq_true rfl : 2 + 1 ≤ 7) hD) (S_S_floatsAt hfl (Nat.le_refl _) h f2_ v3_)) (fun v6 h5 => ?_))
    refine y_if_eq (tgt := 35) d_D_hoursToFloat_29 (by decide) ?_ ?_
    · refine y_aload_n d_D_hoursToFloat_35 rfl ?_
      refine y_aload_n d_D_hoursToFloat_36 rfl ?_
      refine y_getI d_D_hoursToFloat_37 f_D_34 (fun v7 => ?_)
      refine y_iload d_D_hoursToFloat_40 rfl ?_
      refine y_iadd (v := (v7 + v4_)) d_D_hoursToFloat_42 rfl ?_
      refine y_iconst (v := (J 1)) d_D_hoursToFloat_43 rfl ?_
      refine y_iadd (v := ((v7 + v4_) + (J 1))) d_D_hoursToFloat_44 rfl ?_
      refine y_iload_n d_D_hoursToFloat_45 rfl ?_
      refine y_gO (fun fs1 g1 => y_cI (c_vi (rest := []) d_D_hoursToFloat_46 k_D_levelInHour s_D_132 (Or.inl ⟨_, _, _, g1, rfl, rfl⟩) rfl rfl (Nat.le_of_ble_eq_true rfl) (Nat.le_trans (Nat.le_of_ble_eq_true rfl : 2 + 1 ≤ 7) hD) (S_D_levelInHour hfl (Nat.le_refl _) h5 f0_ ((v7 + v4_) + (J 1)) v3_)) (fun v9 h8 => ?_))
      refine y_istore_n (loc2 := [some (.ref f0_), none, some (.ref f2_), some (.int v9), some (.int v4_)]) d_D_hoursToFloat_49 (Nat.le_of_ble_eq_true rfl) rfl rfl ?_
      refine y_iinc (v := (v4_ + (J 1))) (loc2 := [some (.ref f0_), none, some (.ref f2_), some (.int v9), some (.int (v4_ + (J 1)))]) d_D_hoursToFloat_50 rfl rfl (Nat.le_of_ble_eq_true rfl) rfl rfl ?_
      refine y_goto (tgt := 17) d_D_hoursToFloat_53 (by decide) ?_
      exact ih h8 v9 (v4_ + (J 1))
    · refine y_iload d_D_hoursToFloat_32 rfl ?_
      exact y_retIX d_D_hoursToFloat_34 rfl rfl
theorem S_D_hoursToFloat_17 (hfl : HF l Θ) (hD : 7 ≤ d) {K56 : mH → Option ((Int32 ⊕ Nat) × mH)} {f0_ : Nat} {f2_ : Nat}  (hK56 : ∀ (h : mH), mY l Θ d M_D_hoursToFloat 56 [none, none, none, none, none] [] h (tX vI) (K56 h)) : ∀ (n : Nat) (h : mH) (v3_ : Int32) (v4_ : Int32), mY l Θ d M_D_hoursToFloat 17 [some (.ref f0_), none, some (.ref f2_), some (.int v3_), some (.int v4_)] [] h (tX vI) (P_D_hoursToFloat_17 Θ N K56 f0_ f2_ n h v3_ v4_) :=
  fun n => lp_all (C := fun (rc : mH → Int32 → Int32 → Option ((Int32 ⊕ Nat) × mH)) => ∀ (h : mH) (v3_ : Int32) (v4_ : Int32), mY l Θ d M_D_hoursToFloat 17 [some (.ref f0_), none, some (.ref f2_), some (.int v3_), some (.int v4_)] [] h (tX vI) (rc h v3_ v4_)) (fun _ _ _ => y_none) (fun rc ih => SB_D_hoursToFloat_17 hfl hD hK56 rc ih) n
theorem S_D_hoursToFloat (hfl : HF l Θ) (hD : 7 ≤ d) (h : mH) (a0 : Nat) (a1 : Int32) : mMs l Θ d M_D_hoursToFloat [.ref a0, .int a1] h (tX vI) (P_D_hoursToFloat Θ N h a0 a1) := by
  refine mMs.of hfl (by decide +kernel) rfl (Nat.le_of_ble_eq_true rfl) (loc := [some (.ref a0), some (.int a1), none, none, none]) rfl ?_
  unfold P_D_hoursToFloat
  refine y_aload_n d_D_hoursToFloat_0 rfl ?_
  refine y_getA d_D_hoursToFloat_1 f_D_10 (fun v1 => ?_)
  refine y_iload_n d_D_hoursToFloat_4 rfl ?_
  refine y_gO (fun fs1 g1 => y_xA (c_vi (rest := []) d_D_hoursToFloat_5 k_L_known s_D_50 (Or.inl ⟨_, _, _, g1, rfl, rfl⟩) rfl rfl (Nat.le_of_ble_eq_true rfl) (Nat.le_trans (Nat.le_of_ble_eq_true rfl : 6 + 1 ≤ 7) hD) (S_L_known hfl (Nat.le_refl _) h v1 a1)) (fun v3 h2 => ?_) (fun _ _ => y_hp rfl))
  refine y_astore_n (loc2 := [some (.ref a0), some (.int a1), some (.ref v3), none, none]) d_D_hoursToFloat_8 (Nat.le_of_ble_eq_true rfl) rfl rfl ?_
  refine y_aload_n d_D_hoursToFloat_9 rfl ?_
  refine y_getI d_D_hoursToFloat_10 f_D_23 (fun v4 => ?_)
  refine y_istore_n (loc2 := [some (.ref a0), some (.int a1), some (.ref v3), some (.int v4), none]) d_D_hoursToFloat_13 (Nat.le_of_ble_eq_true rfl) rfl rfl ?_
  refine y_iconst (v := (J 0)) d_D_hoursToFloat_14 rfl ?_
  refine y_istore (loc2 := [some (.ref a0), some (.int a1), some (.ref v3), some (.int v4), some (.int (J 0))]) d_D_hoursToFloat_15 (Nat.le_of_ble_eq_true rfl) rfl rfl ?_
  refine y_wk (loc2 := [some (.ref a0), none, some (.ref v3), some (.int v4), some (.int (J 0))]) ⟨rfl, ⟨rfl, ⟨rfl, ⟨rfl, trivial⟩⟩⟩⟩ ?_
  refine S_D_hoursToFloat_17 hfl hD (fun h10 => ?_) N h2 v4 (J 0)
  exact y_throw rfl d_D_hoursToFloat_56 d_D_hoursToFloat_59 d_D_hoursToFloat_60 d_D_hoursToFloat_62 d_D_hoursToFloat_65 mExc_12 y_D_70 x_D_74 (List.mem_of_getElem? (i := 29) rfl) (Nat.le_of_ble_eq_true rfl) (Nat.le_trans (Nat.le_of_ble_eq_true rfl) hD)
noncomputable def P_D_signAt (Θ : mW) (N : Nat) (h : mH) (a0 : Nat) (a1 : Int32) : Option (Int32 × mH) :=
  (bo (rA Θ h 1 a0 0) (fun v1 => (gO Θ h 2 v1 (bn (P_L_overlapping Θ N h v1 a1 (J 1)) (fun v3 h2 => (bo (rI Θ h2 3 v3 0) (fun v5 => (if 0 ≤ (((((J 48) + (v5 - v5 / (J 10) * (J 10)))).toUInt32 % 65536).toInt32) ∧ (((((J 48) + (v5 - v5 / (J 10) * (J 10)))).toUInt32 % 65536).toInt32) ≤ 65535 then some ((((((J 48) + (v5 - v5 / (J 10) * (J 10)))).toUInt32 % 65536).toInt32), h2) else none)))) (fun h4 => (bo (rA Θ h4 1 a0 1) (fun v6 => (gO Θ h4 4 v6 (bc (P_B_isAt Θ N h4 v6 a1) (fun v8 h7 => (if v8 = 0 then (if 0 ≤ (J 46) ∧ (J 46) ≤ 65535 then some ((J 46), h7) else none) else (if 0 ≤ (J 94) ∧ (J 94) ≤ 65535 then some ((J 94), h7) else none))))))))))))
theorem S_D_signAt (hfl : HF l Θ) (hD : 3 ≤ d) (h : mH) (a0 : Nat) (a1 : Int32) : mMs l Θ d M_D_signAt [.ref a0, .int a1] h (tR vI) (P_D_signAt Θ N h a0 a1) := by
  refine mMs.of hfl (by decide +kernel) rfl (Nat.le_of_ble_eq_true rfl) (loc := [some (.ref a0), some (.int a1), none]) rfl ?_
  unfold P_D_signAt
  refine y_aload_n d_D_signAt_0 rfl ?_
  refine y_getA d_D_signAt_1 f_D_10 (fun v1 => ?_)
  refine y_iload_n d_D_signAt_4 rfl ?_
  refine y_iconst (v := (J 1)) d_D_signAt_5 rfl ?_
  refine y_gO (fun fs1 g1 => y_cN (c_vi (rest := []) d_D_signAt_6 k_L_overlapping s_D_79 (Or.inl ⟨_, _, _, g1, rfl, rfl⟩) rfl rfl (Nat.le_of_ble_eq_true rfl) (Nat.le_trans (Nat.le_of_ble_eq_true rfl : 2 + 1 ≤ 3) hD) (S_L_overlapping hfl (Nat.le_refl _) h v1 a1 (J 1))) (fun v3 h2 => ?_) (fun h4 => ?_))
  · refine y_astore_n (loc2 := [some (.ref a0), some (.int a1), some (.ref v3)]) d_D_signAt_9 (Nat.le_of_ble_eq_true rfl) rfl rfl ?_
    refine y_aload_n d_D_signAt_10 rfl ?_
    refine y_ifnull d_D_signAt_11 ?_
    refine y_bipush (v := (J 48)) d_D_signAt_14 (by decide +kernel) ?_
    refine y_aload_n d_D_signAt_16 rfl ?_
    refine y_getI d_D_signAt_17 f_D_199 (fun v5 => ?_)
    refine y_bipush (v := (J 10)) d_D_signAt_20 (by decide +kernel) ?_
    refine y_irem (v := (v5 - v5 / (J 10) * (J 10))) d_D_signAt_22 (by decide +kernel) rfl ?_
    refine y_iadd (v := ((J 48) + (v5 - v5 / (J 10) * (J 10)))) d_D_signAt_23 rfl ?_
    refine y_i2c (v := (((((J 48) + (v5 - v5 / (J 10) * (J 10)))).toUInt32 % 65536).toInt32)) d_D_signAt_24 rfl ?_
    exact y_gC (fun hn => y_retI d_D_signAt_25 rfl hn)
  · refine y_astore_nN (loc2 := [some (.ref a0), some (.int a1), some (.null)]) d_D_signAt_9 (Nat.le_of_ble_eq_true rfl) rfl rfl ?_
    refine y_aload_nN d_D_signAt_10 rfl ?_
    refine y_ifnullN (tgt := 26) d_D_signAt_11 (by decide) ?_
    refine y_aload_n d_D_signAt_26 rfl ?_
    refine y_getA d_D_signAt_27 f_D_19 (fun v6 => ?_)
    refine y_iload_n d_D_signAt_30 rfl ?_
    refine y_gO (fun fs1 g1 => y_cI (c_vi (rest := []) d_D_signAt_31 k_B_isAt s_D_177 (Or.inl ⟨_, _, _, g1, rfl, rfl⟩) rfl rfl (Nat.le_of_ble_eq_true rfl) (Nat.le_trans (Nat.le_of_ble_eq_true rfl : 2 + 1 ≤ 3) hD) (S_B_isAt hfl (Nat.le_refl _) h4 v6 a1)) (fun v8 h7 => ?_))
    refine y_if_eq (tgt := 42) d_D_signAt_34 (by decide) ?_ ?_
    · refine y_bipush (v := (J 46)) d_D_signAt_42 (by decide +kernel) ?_
      exact y_gC (fun hn => y_retI d_D_signAt_44 rfl hn)
    · refine y_bipush (v := (J 94)) d_D_signAt_37 (by decide +kernel) ?_
      refine y_goto (tgt := 44) d_D_signAt_39 (by decide) ?_
      exact y_gC (fun hn => y_retI d_D_signAt_44 rfl hn)
noncomputable def P_D_billsByAccount (Θ : mW) (N : Nat) (h : mH) (a0 : Nat) : Option (Int32 × mH) :=
  (bo (rI Θ h 1 a0 6) (fun v1 => (bo (rI Θ h 1 a0 7) (fun v2 => (some ((v1 - v2), h))))))
theorem S_D_billsByAccount (hfl : HF l Θ) (hD : 1 ≤ d) (h : mH) (a0 : Nat) : mMs l Θ d M_D_billsByAccount [.ref a0] h (tR vI) (P_D_billsByAccount Θ N h a0) := by
  refine mMs.of hfl (by decide +kernel) rfl (Nat.le_of_ble_eq_true rfl) (loc := [some (.ref a0)]) rfl ?_
  unfold P_D_billsByAccount
  refine y_aload_n d_D_billsByAccount_0 rfl ?_
  refine y_getI d_D_billsByAccount_1 f_D_37 (fun v1 => ?_)
  refine y_aload_n d_D_billsByAccount_4 rfl ?_
  refine y_getI d_D_billsByAccount_5 f_D_40 (fun v2 => ?_)
  refine y_isub (v := (v1 - v2)) d_D_billsByAccount_8 rfl ?_
  exact y_retI d_D_billsByAccount_9 rfl rfl
noncomputable def P_D_isWaiting (Θ : mW) (N : Nat) (h : mH) (a0 : Nat) (a1 : Nat) : Option (Int32 × mH) :=
  (gO Θ h 3 a1 (bc (P_S_isDocked Θ N h a1) (fun v2 h1 => (if v2 = 0 then (gO Θ h1 1 a0 (bc (P_D_canEnterNow Θ N h1 a0 a1) (fun v4 h3 => (if v4 = 0 then (some ((J 0), h3)) else (some ((J 1), h3)))))) else (some ((J 0), h1))))))
theorem S_D_isWaiting (hfl : HF l Θ) (hD : 2 ≤ d) (h : mH) (a0 : Nat) (a1 : Nat) : mMs l Θ d M_D_isWaiting [.ref a0, .ref a1] h (tR vI) (P_D_isWaiting Θ N h a0 a1) := by
  refine mMs.of hfl (by decide +kernel) rfl (Nat.le_of_ble_eq_true rfl) (loc := [some (.ref a0), some (.ref a1)]) rfl ?_
  unfold P_D_isWaiting
  refine y_aload_n d_D_isWaiting_0 rfl ?_
  refine y_gO (fun fs1 g1 => y_cI (c_vi (rest := []) d_D_isWaiting_1 k_S_isDocked s_D_66 (Or.inl ⟨_, _, _, g1, rfl, rfl⟩) rfl rfl (Nat.le_of_ble_eq_true rfl) (Nat.le_trans (Nat.le_of_ble_eq_true rfl : 1 + 1 ≤ 2) hD) (S_S_isDocked hfl (Nat.le_refl _) h a1)) (fun v2 h1 => ?_))
  refine y_if_ne (tgt := 19) d_D_isWaiting_4 (by decide) ?_ ?_
  · refine y_iconst (v := (J 0)) d_D_isWaiting_19 rfl ?_
    exact y_retI d_D_isWaiting_20 rfl (by decide +kernel)
  · refine y_aload_n d_D_isWaiting_7 rfl ?_
    refine y_aload_n d_D_isWaiting_8 rfl ?_
    refine y_gO (fun fs1 g1 => y_cI (c_vi (rest := []) d_D_isWaiting_9 k_D_canEnterNow s_D_75 (Or.inl ⟨_, _, _, g1, rfl, rfl⟩) rfl rfl (Nat.le_of_ble_eq_true rfl) (Nat.le_trans (Nat.le_of_ble_eq_true rfl : 1 + 1 ≤ 2) hD) (S_D_canEnterNow hfl (Nat.le_refl _) h1 a0 a1)) (fun v4 h3 => ?_))
    refine y_if_eq (tgt := 19) d_D_isWaiting_12 (by decide) ?_ ?_
    · refine y_iconst (v := (J 0)) d_D_isWaiting_19 rfl ?_
      exact y_retI d_D_isWaiting_20 rfl (by decide +kernel)
    · refine y_iconst (v := (J 1)) d_D_isWaiting_15 rfl ?_
      refine y_goto (tgt := 20) d_D_isWaiting_16 (by decide) ?_
      exact y_retI d_D_isWaiting_20 rfl (by decide +kernel)
noncomputable def P_G_init (Θ : mW) (N : Nat) (h : mH) (a0 : Nat) : Option (Unit × mH) :=
  (ala Θ h 4 (J 9) (fun n => .inl (0, n, .inl (fun _ => 0))) (fun q1 h2 => (bo (wF Θ h2 6 a0 0 (.ref q1)) (fun h3 => (bo (wF Θ h3 6 a0 1 (.int (J 0))) (fun h4 => (ala Θ h4 4 (J 8) (fun n => .inl (0, n, .inl (fun _ => 0))) (fun q5 h6 => (bo (wF Θ h6 6 a0 2 (.ref q5)) (fun h7 => (bo (wF Θ h7 6 a0 3 (.int (J 0))) (fun h8 => (ala Θ h8 4 (J 256) (fun n => .inl (0, n, .inl (fun _ => 0))) (fun q9 h10 => (bo (wF Θ h10 6 a0 4 (.ref q9)) (fun h11 => (ala Θ h11 1 (J 256) (fun n => .inl (1, n, .inl (fun _ => 0))) (fun q12 h13 => (bo (wF Θ h13 6 a0 5 (.ref q12)) (fun h14 => (some ((), h14))))))))))))))))))))))
theorem S_G_init (hfl : HF l Θ) (hD : 1 ≤ d) (h : mH) (a0 : Nat) : mMs l Θ d M_G_init [.ref a0] h (tR vU) (P_G_init Θ N h a0) := by
  refine mMs.of hfl (by decide +kernel) rfl (Nat.le_of_ble_eq_true rfl) (loc := [some (.ref a0)]) rfl ?_
  unfold P_G_init
  refine y_aload_n d_G_init_0 rfl ?_
  refine y_objInit d_G_init_1 s_G_1 (mG (1, 42) (by decide +kernel)) (mG (1, 43) (by decide +kernel)) (Nat.le_of_ble_eq_true rfl) (Nat.le_trans (Nat.le_of_ble_eq_true rfl) hD) ?_
  refine y_aload_n d_G_init_4 rfl ?_
  refine y_bipush (v := (J 9)) d_G_init_5 (by decide +kernel) ?_
  refine y_newarr (ty := .int) (a0 := fun n => (n, .inl (fun _ => 0))) d_G_init_7 rfl (fun _ => rfl) (mG (1, 144) (by decide +kernel)) (fun _ _ => rfl) (fun _ => rfl) rfl (fun q1 h2 => ?_)
  refine y_putF d_G_init_9 rfl pf_G_9 rfl rfl (fun h3 => ?_)
  refine y_aload_n d_G_init_12 rfl ?_
  refine y_iconst (v := (J 0)) d_G_init_13 rfl ?_
  refine y_put d_G_init_14 p_G_15 rfl rfl (fun h4 => ?_)
  refine y_aload_n d_G_init_17 rfl ?_
  refine y_bipush (v := (J 8)) d_G_init_18 (by decide +kernel) ?_
  refine y_newarr (ty := .int) (a0 := fun n => (n, .inl (fun _ => 0))) d_G_init_20 rfl (fun _ => rfl) (mG (1, 144) (by decide +kernel)) (fun _ _ => rfl) (fun _ => rfl) rfl (fun q5 h6 => ?_)
  refine y_putF d_G_init_22 rfl pf_G_19 rfl rfl (fun h7 => ?_)
  refine y_aload_n d_G_init_25 rfl ?_
  refine y_iconst (v := (J 0)) d_G_init_26 rfl ?_
  refine y_put d_G_init_27 p_G_22 rfl rfl (fun h8 => ?_)
  refine y_aload_n d_G_init_30 rfl ?_
  refine y_sipush (v := (J 256)) d_G_init_31 (by decide +kernel) ?_
  refine y_newarr (ty := .int) (a0 := fun n => (n, .inl (fun _ => 0))) d_G_init_34 rfl (fun _ => rfl) (mG (1, 144) (by decide +kernel)) (fun _ _ => rfl) (fun _ => rfl) rfl (fun q9 h10 => ?_)
  refine y_putF d_G_init_36 rfl pf_G_25 rfl rfl (fun h11 => ?_)
  refine y_aload_n d_G_init_39 rfl ?_
  refine y_sipush (v := (J 256)) d_G_init_40 (by decide +kernel) ?_
  refine y_newarr (ty := .boolean) (a0 := fun n => (n, .inl (fun _ => 0))) d_G_init_43 rfl (fun _ => rfl) (mG (1, 221) (by decide +kernel)) (fun _ _ => rfl) (fun _ => rfl) rfl (fun q12 h13 => ?_)
  refine y_putF d_G_init_45 rfl pf_G_28 rfl rfl (fun h14 => ?_)
  exact y_retU d_G_init_48 rfl
noncomputable def B_G_mostFrom_28 (Θ : mW) (N : Nat) (K90 : mH → Int32 → Option (Int32 × mH)) (rec : mH → Nat → Int32 → Option (Int32 × mH)) (f0_ : Nat) (f1_ : Int32) (f3_ : Int32) (rc : mH → Int32 → Int32 → Option (Int32 × mH)) (h : mH) (v2_ : Int32) (v4_ : Int32) : Option (Int32 × mH) :=
  (bo (rI Θ h 6 f0_ 1) (fun v6 => (if v6 ≤ v4_ then (K90 h v2_) else (bo (rA Θ h 6 f0_ 0) (fun v7 => (bo (aR Θ h 0 v7 v4_) (fun v8 => (jn (fun (h10 : mH) (u11 : Int32) => (rc h10 u11 (v4_ + (J 1)))) (fun j9 => (if v8 < f3_ then (j9 h v2_) else (bo (rA Θ h 6 f0_ 0) (fun v12 => (bo (aR Θ h 0 v12 v4_) (fun v13 => (bo (aW Θ h 0 v12 v4_ (v13 - f3_)) (fun h14 => (bc (rec h14 f0_ (f1_ + (J 1))) (fun v16 h15 => (bo (rA Θ h15 6 f0_ 0) (fun v17 => (bo (aR Θ h15 0 v17 v4_) (fun v18 => (bo (aW Θ h15 0 v17 v4_ (v18 + f3_)) (fun h19 => (j9 h19 (mxI v2_ ((J 1) + v16)))))))))))))))))))))))))))
noncomputable def P_G_mostFrom_28 (Θ : mW) (N : Nat) (K90 : mH → Int32 → Option (Int32 × mH)) (rec : mH → Nat → Int32 → Option (Int32 × mH)) (f0_ : Nat) (f1_ : Int32) (f3_ : Int32) : Nat → mH → Int32 → Int32 → Option (Int32 × mH) :=
  lp (fun _ _ _ => none) (B_G_mostFrom_28 Θ N K90 rec f0_ f1_ f3_)
noncomputable def R_G_mostFrom (Θ : mW) (N : Nat) (rec : mH → Nat → Int32 → Option (Int32 × mH)) (h : mH) (a0 : Nat) (a1 : Int32) : Option (Int32 × mH) :=
  (bo (rI Θ h 6 a0 3) (fun v1 => (if a1 < v1 then (bc (rec h a0 (a1 + (J 1))) (fun v3 h2 => (bo (rA Θ h2 6 a0 2) (fun v4 => (bo (aR Θ h2 0 v4 a1) (fun v5 => (P_G_mostFrom_28 Θ N (fun h20 u21 => (some (u21, h20))) rec a0 a1 v5 N h2 v3 (J 0)))))))) else (some ((J 0), h)))))
noncomputable def P_G_mostFrom (Θ : mW) (N : Nat) : Nat → mH → Nat → Int32 → Option (Int32 × mH) := lp (fun _ _ _ => none) (R_G_mostFrom Θ N)
theorem SB_G_mostFrom_28 (hfl : HF l Θ) {dr : Nat} (hD : 1 ≤ d) {K90 : mH → Int32 → Option (Int32 × mH)} {rec : mH → Nat → Int32 → Option (Int32 × mH)} (hdr : dr + 1 ≤ d) (ihr : ∀ (h : mH) (a0 : Nat) (a1 : Int32), mMs l Θ dr M_G_mostFrom [.ref a0, .int a1] h (tR vI) (rec h a0 a1)) {f0_ : Nat} {f1_ : Int32} {f3_ : Int32}  (hK90 : ∀ (h : mH) (v2_ : Int32), mY l Θ d M_G_mostFrom 90 [none, none, some (.int v2_), none, none] [] h (tR vI) (K90 h v2_)) (rc : mH → Int32 → Int32 → Option (Int32 × mH)) (ih : ∀ (h : mH) (v2_ : Int32) (v4_ : Int32), mY l Θ d M_G_mostFrom 28 [some (.ref f0_), some (.int f1_), some (.int v2_), some (.int f3_), some (.int v4_)] [] h (tR vI) (rc h v2_ v4_)) : ∀ (h : mH) (v2_ : Int32) (v4_ : Int32), mY l Θ d M_G_mostFrom 28 [some (.ref f0_), some (.int f1_), some (.int v2_), some (.int f3_), some (.int v4_)] [] h (tR vI) (B_G_mostFrom_28 Θ N K90 rec f0_ f1_ f3_ rc h v2_ v4_) := by
  intro h v2_ v4_
  unfold B_G_mostFrom_28
  refine y_iload d_G_mostFrom_28 rfl ?_
  refine y_aload_n d_G_mostFrom_30 rfl ?_
  refine y_getI d_G_mostFrom_31 f_G_15 (fun v6 => ?_)
  refine y_icmp_ge (tgt := 90) d_G_mostFrom_34 (by decide) ?_ ?_
  · exact y_wk (loc2 := [none, none, some (.int v2_), none, none]) ⟨rfl, trivial⟩ (hK90 h v2_)
  · refine y_aload_n d_G_mostFrom_37 rfl ?_
    refine y_getA d_G_mostFrom_38 f_G_9 (fun v7 => ?_)
    refine y_iload d_G_mostFrom_41 rfl ?_
    refine y_iald d_G_mostFrom_43 (fun v8 => ?_)
    refine y_iload_n d_G_mostFrom_44 rfl ?_
    refine y_jn (C := fun (j9 : mH → Int32 → Option (Int32 × mH)) => ∀ (h10 : mH) (u11 : Int32), mY l Θ d M_G_mostFrom 84 [some (.ref f0_), some (.int f1_), some (.int u11), some (.int f3_), some (.int v4_)] [] h10 (tR vI) (j9 h10 u11)) (fun h10 u11 => ?_) (fun j9 Hj9 => ?_)
    · refine y_iinc (v := (v4_ + (J 1))) (loc2 := [some (.ref f0_), some (.int f1_), some (.int u11), some (.int f3_), some (.int (v4_ + (J 1)))]) d_G_mostFrom_84 rfl rfl (Nat.le_of_ble_eq_true rfl) rfl rfl ?_
      refine y_goto (tgt := 28) d_G_mostFrom_87 (by decide) ?_
      exact ih h10 u11 (v4_ + (J 1))
    · refine y_icmp_lt (tgt := 84) d_G_mostFrom_45 (by decide) ?_ ?_
      · exact Hj9 h v2_
      · refine y_aload_n d_G_mostFrom_48 rfl ?_
        refine y_getA d_G_mostFrom_49 f_G_9 (fun v12 => ?_)
        refine y_iload d_G_mostFrom_52 rfl ?_
        refine y_dup2 d_G_mostFrom_54 rfl rfl ?_
        refine y_iald d_G_mostFrom_55 (fun v13 => ?_)
        refine y_iload_n d_G_mostFrom_56 rfl ?_
        refine y_isub (v := (v13 - f3_)) d_G_mostFrom_57 rfl ?_
        refine y_iast d_G_mostFrom_58 (fun h14 => ?_)
        refine y_iload_n d_G_mostFrom_59 rfl ?_
        refine y_iconst (v := (J 1)) d_G_mostFrom_60 rfl ?_
        refine y_aload_n d_G_mostFrom_61 rfl ?_
        refine y_iload_n d_G_mostFrom_62 rfl ?_
        refine y_iconst (v := (J 1)) d_G_mostFrom_63 rfl ?_
        refine y_iadd (v := (f1_ + (J 1))) d_G_mostFrom_64 rfl ?_
        refine y_cI (c_st (rest := [.int (J 1), .int v2_]) d_G_mostFrom_65 k_G_mostFrom s_G_36 rfl rfl (Nat.le_of_ble_eq_true rfl) hdr (ihr h14 f0_ (f1_ + (J 1)))) (fun v16 h15 => ?_)
        refine y_iadd (v := ((J 1) + v16)) d_G_mostFrom_68 rfl ?_
        refine y_mmax d_G_mostFrom_69 s_G_49.1 s_G_49.2 k_MA_max.2.2.2.2.2 (mG (3, 185) (by decide +kernel)) (Nat.le_of_ble_eq_true rfl) (Nat.le_trans (Nat.le_of_ble_eq_true rfl) hD) ?_
        refine y_istore_n (loc2 := [some (.ref f0_), some (.int f1_), some (.int (mxI v2_ ((J 1) + v16))), some (.int f3_), some (.int v4_)]) d_G_mostFrom_72 (Nat.le_of_ble_eq_true rfl) rfl rfl ?_
        refine y_aload_n d_G_mostFrom_73 rfl ?_
        refine y_getA d_G_mostFrom_74 f_G_9 (fun v17 => ?_)
        refine y_iload d_G_mostFrom_77 rfl ?_
        refine y_dup2 d_G_mostFrom_79 rfl rfl ?_
        refine y_iald d_G_mostFrom_80 (fun v18 => ?_)
        refine y_iload_n d_G_mostFrom_81 rfl ?_
        refine y_iadd (v := (v18 + f3_)) d_G_mostFrom_82 rfl ?_
        refine y_iast d_G_mostFrom_83 (fun h19 => ?_)
        exact Hj9 h19 (mxI v2_ ((J 1) + v16))
theorem S_G_mostFrom_28 (hfl : HF l Θ) {dr : Nat} (hD : 1 ≤ d) {K90 : mH → Int32 → Option (Int32 × mH)} {rec : mH → Nat → Int32 → Option (Int32 × mH)} (hdr : dr + 1 ≤ d) (ihr : ∀ (h : mH) (a0 : Nat) (a1 : Int32), mMs l Θ dr M_G_mostFrom [.ref a0, .int a1] h (tR vI) (rec h a0 a1)) {f0_ : Nat} {f1_ : Int32} {f3_ : Int32}  (hK90 : ∀ (h : mH) (v2_ : Int32), mY l Θ d M_G_mostFrom 90 [none, none, some (.int v2_), none, none] [] h (tR vI) (K90 h v2_)) : ∀ (n : Nat) (h : mH) (v2_ : Int32) (v4_ : Int32), mY l Θ d M_G_mostFrom 28 [some (.ref f0_), some (.int f1_), some (.int v2_), some (.int f3_), some (.int v4_)] [] h (tR vI) (P_G_mostFrom_28 Θ N K90 rec f0_ f1_ f3_ n h v2_ v4_) :=
  fun n => lp_all (C := fun (rc : mH → Int32 → Int32 → Option (Int32 × mH)) => ∀ (h : mH) (v2_ : Int32) (v4_ : Int32), mY l Θ d M_G_mostFrom 28 [some (.ref f0_), some (.int f1_), some (.int v2_), some (.int f3_), some (.int v4_)] [] h (tR vI) (rc h v2_ v4_)) (fun _ _ _ => y_none) (fun rc ih => SB_G_mostFrom_28 hfl hD hdr ihr hK90 rc ih) n
theorem SR_G_mostFrom (hfl : HF l Θ) {dr : Nat} (hD : 1 ≤ d) (hdr : dr + 1 ≤ d) {rec : mH → Nat → Int32 → Option (Int32 × mH)} (ihr : ∀ (h : mH) (a0 : Nat) (a1 : Int32), mMs l Θ dr M_G_mostFrom [.ref a0, .int a1] h (tR vI) (rec h a0 a1)) (h : mH) (a0 : Nat) (a1 : Int32) : mMs l Θ d M_G_mostFrom [.ref a0, .int a1] h (tR vI) (R_G_mostFrom Θ N rec h a0 a1) := by
  refine mMs.of hfl (by decide +kernel) rfl (Nat.le_of_ble_eq_true rfl) (loc := [some (.ref a0), some (.int a1), none, none, none]) rfl ?_
  unfold R_G_mostFrom
  refine y_iload_n d_G_mostFrom_0 rfl ?_
  refine y_aload_n d_G_mostFrom_1 rfl ?_
  refine y_getI d_G_mostFrom_2 f_G_22 (fun v1 => ?_)
  refine y_icmp_lt (tgt := 10) d_G_mostFrom_5 (by decide) ?_ ?_
  · refine y_aload_n d_G_mostFrom_10 rfl ?_
    refine y_iload_n d_G_mostFrom_11 rfl ?_
    refine y_iconst (v := (J 1)) d_G_mostFrom_12 rfl ?_
    refine y_iadd (v := (a1 + (J 1))) d_G_mostFrom_13 rfl ?_
    refine y_cI (c_st (rest := []) d_G_mostFrom_14 k_G_mostFrom s_G_36 rfl rfl (Nat.le_of_ble_eq_true rfl) hdr (ihr h a0 (a1 + (J 1)))) (fun v3 h2 => ?_)
    refine y_istore_n (loc2 := [some (.ref a0), some (.int a1), some (.int v3), none, none]) d_G_mostFrom_17 (Nat.le_of_ble_eq_true rfl) rfl rfl ?_
    refine y_aload_n d_G_mostFrom_18 rfl ?_
    refine y_getA d_G_mostFrom_19 f_G_19 (fun v4 => ?_)
    refine y_iload_n d_G_mostFrom_22 rfl ?_
    refine y_iald d_G_mostFrom_23 (fun v5 => ?_)
    refine y_istore_n (loc2 := [some (.ref a0), some (.int a1), some (.int v3), some (.int v5), none]) d_G_mostFrom_24 (Nat.le_of_ble_eq_true rfl) rfl rfl ?_
    refine y_iconst (v := (J 0)) d_G_mostFrom_25 rfl ?_
    refine y_istore (loc2 := [some (.ref a0), some (.int a1), some (.int v3), some (.int v5), some (.int (J 0))]) d_G_mostFrom_26 (Nat.le_of_ble_eq_true rfl) rfl rfl ?_
    refine S_G_mostFrom_28 hfl hD hdr ihr (fun h20 u21 => ?_) N h2 v3 (J 0)
    refine y_iload_n d_G_mostFrom_90 rfl ?_
    exact y_retI d_G_mostFrom_91 rfl rfl
  · refine y_iconst (v := (J 0)) d_G_mostFrom_8 rfl ?_
    exact y_retI d_G_mostFrom_9 rfl rfl
theorem S_G_mostFrom (hfl : HF l Θ) : ∀ (n : Nat) {d : Nat} (_ : 1 + n ≤ d) (h : mH) (a0 : Nat) (a1 : Int32), mMs l Θ d M_G_mostFrom [.ref a0, .int a1] h (tR vI) (P_G_mostFrom Θ N n h a0 a1)
  | 0, _, _, _, _, _ => fun r e => by cases e
  | n + 1, d, hD, h, a0, a1 => SR_G_mostFrom (dr := 1 + n) hfl (by omega) (by omega) (fun h a0 a1 => S_G_mostFrom hfl n (Nat.le_refl _) h a0 a1) h a0 a1
noncomputable def P_G_addGap (Θ : mW) (N : Nat) (h : mH) (a0 : Nat) (a1 : Int32) : Option (Unit × mH) :=
  (if a1 ≤ 0 then (some ((), h)) else (bo (rI Θ h 6 a0 1) (fun v1 => (bo (rA Θ h 6 a0 0) (fun v2 => (bo (aN Θ h v2) (fun v3 => (if v3 ≤ v1 then (some ((), h)) else (bo (rA Θ h 6 a0 0) (fun v4 => (bo (rI Θ h 6 a0 1) (fun v5 => (bo (aW Θ h 0 v4 v5 a1) (fun h6 => (bo (rI Θ h6 6 a0 1) (fun v7 => (bo (wF Θ h6 6 a0 1 (.int (v7 + (J 1)))) (fun h8 => (some ((), h8))))))))))))))))))))
theorem S_G_addGap (hfl : HF l Θ) (hD : 1 ≤ d) (h : mH) (a0 : Nat) (a1 : Int32) : mMs l Θ d M_G_addGap [.ref a0, .int a1] h (tR vU) (P_G_addGap Θ N h a0 a1) := by
  refine mMs.of hfl (by decide +kernel) rfl (Nat.le_of_ble_eq_true rfl) (loc := [some (.ref a0), some (.int a1)]) rfl ?_
  unfold P_G_addGap
  refine y_iload_n d_G_addGap_0 rfl ?_
  refine y_if_le (tgt := 36) d_G_addGap_1 (by decide) ?_ ?_
  · exact y_retU d_G_addGap_36 rfl
  · refine y_aload_n d_G_addGap_4 rfl ?_
    refine y_getI d_G_addGap_5 f_G_15 (fun v1 => ?_)
    refine y_aload_n d_G_addGap_8 rfl ?_
    refine y_getA d_G_addGap_9 f_G_9 (fun v2 => ?_)
    refine y_alen d_G_addGap_12 (fun v3 => ?_)
    refine y_icmp_ge (tgt := 36) d_G_addGap_13 (by decide) ?_ ?_
    · exact y_retU d_G_addGap_36 rfl
    · refine y_aload_n d_G_addGap_16 rfl ?_
      refine y_getA d_G_addGap_17 f_G_9 (fun v4 => ?_)
      refine y_aload_n d_G_addGap_20 rfl ?_
      refine y_getI d_G_addGap_21 f_G_15 (fun v5 => ?_)
      refine y_iload_n d_G_addGap_24 rfl ?_
      refine y_iast d_G_addGap_25 (fun h6 => ?_)
      refine y_aload_n d_G_addGap_26 rfl ?_
      refine y_dup d_G_addGap_27 rfl ?_
      refine y_getI d_G_addGap_28 f_G_15 (fun v7 => ?_)
      refine y_iconst (v := (J 1)) d_G_addGap_31 rfl ?_
      refine y_iadd (v := (v7 + (J 1))) d_G_addGap_32 rfl ?_
      refine y_put d_G_addGap_33 p_G_15 rfl rfl (fun h8 => ?_)
      exact y_retU d_G_addGap_36 rfl
noncomputable def B_G_survey_7 (Θ : mW) (N : Nat) (K71 : mH → Option (Unit × mH)) (f0_ : Nat) (f1_ : Nat) (rc : mH → Int32 → Option (Unit × mH)) (h : mH) (v2_ : Int32) : Option (Unit × mH) :=
  (bo (rA Θ h 1 f1_ 0) (fun v2 => (bo (rI Θ h 2 v2 1) (fun v3 => (if v3 ≤ v2_ then (K71 h) else (bo (rA Θ h 1 f1_ 0) (fun v4 => (bo (rA Θ h 2 v4 0) (fun v5 => (bo (aRQ Θ h 5 v5 v2_) (fun v6 => (gO Θ h 1 f1_ (bc (P_D_isWaiting Θ N h f1_ v6) (fun v8 h7 => (jn (fun (h10 : mH) => (rc h10 (v2_ + (J 1)))) (fun j9 => (if v8 = 0 then (j9 h7) else (bo (rA Θ h7 6 f0_ 2) (fun v11 => (bo (rI Θ h7 6 f0_ 3) (fun v12 => (bo (rA Θ h7 1 f1_ 0) (fun v13 => (bo (rA Θ h7 2 v13 0) (fun v14 => (bo (aRQ Θ h7 5 v14 v2_) (fun v15 => (bo (rI Θ h7 3 v15 1) (fun v16 => (bo (aW Θ h7 0 v11 v12 v16) (fun h17 => (bo (rI Θ h17 6 f0_ 3) (fun v18 => (bo (wF Θ h17 6 f0_ 3 (.int (v18 + (J 1)))) (fun h19 => (j9 h19))))))))))))))))))))))))))))))))))))
noncomputable def P_G_survey_7 (Θ : mW) (N : Nat) (K71 : mH → Option (Unit × mH)) (f0_ : Nat) (f1_ : Nat) : Nat → mH → Int32 → Option (Unit × mH) :=
  lp (fun _ _ => none) (B_G_survey_7 Θ N K71 f0_ f1_)
noncomputable def B_G_survey_80 (Θ : mW) (N : Nat) (K117 : mH → Int32 → Option (Unit × mH)) (f0_ : Nat) (f1_ : Nat) (rc : mH → Int32 → Int32 → Option (Unit × mH)) (h : mH) (v2_ : Int32) (v3_ : Int32) : Option (Unit × mH) :=
  (if (J 60) ≤ v3_ then (K117 h v2_) else (bo (rA Θ h 1 f1_ 0) (fun v22 => (gO Θ h 2 v22 (bn (P_L_overlapping Θ N h v22 v3_ (J 1)) (fun v24 h23 => (jn (fun (h27 : mH) (u28 : Int32) => (rc h27 u28 (v3_ + (J 1)))) (fun j26 => (gO Θ h23 6 f0_ (bc (P_G_addGap Θ N h23 f0_ v2_) (fun v30 h29 => (j26 h29 (J 0)))))))) (fun h25 => (jn (fun (h32 : mH) (u33 : Int32) => (rc h32 u33 (v3_ + (J 1)))) (fun j31 => (j31 h25 (v2_ + (J 1)))))))))))
noncomputable def P_G_survey_80 (Θ : mW) (N : Nat) (K117 : mH → Int32 → Option (Unit × mH)) (f0_ : Nat) (f1_ : Nat) : Nat → mH → Int32 → Int32 → Option (Unit × mH) :=
  lp (fun _ _ _ => none) (B_G_survey_80 Θ N K117 f0_ f1_)
noncomputable def P_G_survey (Θ : mW) (N : Nat) (h : mH) (a0 : Nat) (a1 : Nat) : Option (Unit × mH) :=
  (bo (wF Θ h 6 a0 3 (.int (J 0))) (fun h1 => (P_G_survey_7 Θ N (fun h20 => (bo (wF Θ h20 6 a0 1 (.int (J 0))) (fun h21 => (P_G_survey_80 Θ N (fun h34 u35 => (gO Θ h34 6 a0 (bc (P_G_addGap Θ N h34 a0 u35) (fun v37 h36 => (some ((), h36)))))) a0 a1 N h21 (J 0) (J 0))))) a0 a1 N h1 (J 0))))
theorem SB_G_survey_7 (hfl : HF l Θ) (hD : 3 ≤ d) {K71 : mH → Option (Unit × mH)} {f0_ : Nat} {f1_ : Nat}  (hK71 : ∀ (h : mH), mY l Θ d M_G_survey 71 [some (.ref f0_), some (.ref f1_), none, none] [] h (tR vU) (K71 h)) (rc : mH → Int32 → Option (Unit × mH)) (ih : ∀ (h : mH) (v2_ : Int32), mY l Θ d M_G_survey 7 [some (.ref f0_), some (.ref f1_), some (.int v2_), none] [] h (tR vU) (rc h v2_)) : ∀ (h : mH) (v2_ : Int32), mY l Θ d M_G_survey 7 [some (.ref f0_), some (.ref f1_), some (.int v2_), none] [] h (tR vU) (B_G_survey_7 Θ N K71 f0_ f1_ rc h v2_) := by
  intro h v2_
  unfold B_G_survey_7
  refine y_iload_n d_G_survey_7 rfl ?_
  refine y_aload_n d_G_survey_8 rfl ?_
  refine y_getA d_G_survey_9 f_G_55 (fun v2 => ?_)
  refine y_getI d_G_survey_12 f_G_61 (fun v3 => ?_)
  refine y_icmp_ge (tgt := 71) d_G_survey_15 (by decide) ?_ ?_
  · exact y_wk (loc2 := [some (.ref f0_), some (.ref f1_), none, none]) ⟨rfl, ⟨rfl, trivial⟩⟩ (hK71 h)
  · refine y_aload_n d_G_survey_18 rfl ?_
    refine y_aload_n d_G_survey_19 rfl ?_
    refine y_getA d_G_survey_20 f_G_55 (fun v4 => ?_)
    refine y_getA d_G_survey_23 f_G_64 (fun v5 => ?_)
    refine y_iload_n d_G_survey_26 rfl ?_
    refine y_qald (Or.inl rfl) d_G_survey_27 (fun v6 => ?_)
    refine y_gO (fun fs1 g1 => y_cI (c_vi (rest := []) d_G_survey_28 k_D_isWaiting s_G_68 (Or.inl ⟨_, _, _, g1, rfl, rfl⟩) rfl rfl (Nat.le_of_ble_eq_true rfl) (Nat.le_trans (Nat.le_of_ble_eq_true rfl : 2 + 1 ≤ 3) hD) (S_D_isWaiting hfl (Nat.le_refl _) h f1_ v6)) (fun v8 h7 => ?_))
    refine y_jn (C := fun (j9 : mH → Option (Unit × mH)) => ∀ (h10 : mH), mY l Θ d M_G_survey 65 [some (.ref f0_), some (.ref f1_), some (.int v2_), none] [] h10 (tR vU) (j9 h10)) (fun h10 => ?_) (fun j9 Hj9 => ?_)
    · refine y_iinc (v := (v2_ + (J 1))) (loc2 := [some (.ref f0_), some (.ref f1_), some (.int (v2_ + (J 1))), none]) d_G_survey_65 rfl rfl (Nat.le_of_ble_eq_true rfl) rfl rfl ?_
      refine y_goto (tgt := 7) d_G_survey_68 (by decide) ?_
      exact ih h10 (v2_ + (J 1))
    · refine y_if_eq (tgt := 65) d_G_survey_31 (by decide) ?_ ?_
      · exact Hj9 h7
      · refine y_aload_n d_G_survey_34 rfl ?_
        refine y_getA d_G_survey_35 f_G_19 (fun v11 => ?_)
        refine y_aload_n d_G_survey_38 rfl ?_
        refine y_getI d_G_survey_39 f_G_22 (fun v12 => ?_)
        refine y_aload_n d_G_survey_42 rfl ?_
        refine y_getA d_G_survey_43 f_G_55 (fun v13 => ?_)
        refine y_getA d_G_survey_46 f_G_64 (fun v14 => ?_)
        refine y_iload_n d_G_survey_49 rfl ?_
        refine y_qald (Or.inl rfl) d_G_survey_50 (fun v15 => ?_)
        refine y_getI d_G_survey_51 f_G_72 (fun v16 => ?_)
        refine y_iast d_G_survey_54 (fun h17 => ?_)
        refine y_aload_n d_G_survey_55 rfl ?_
        refine y_dup d_G_survey_56 rfl ?_
        refine y_getI d_G_survey_57 f_G_22 (fun v18 => ?_)
        refine y_iconst (v := (J 1)) d_G_survey_60 rfl ?_
        refine y_iadd (v := (v18 + (J 1))) d_G_survey_61 rfl ?_
        refine y_put d_G_survey_62 p_G_22 rfl rfl (fun h19 => ?_)
        exact Hj9 h19
theorem S_G_survey_7 (hfl : HF l Θ) (hD : 3 ≤ d) {K71 : mH → Option (Unit × mH)} {f0_ : Nat} {f1_ : Nat}  (hK71 : ∀ (h : mH), mY l Θ d M_G_survey 71 [some (.ref f0_), some (.ref f1_), none, none] [] h (tR vU) (K71 h)) : ∀ (n : Nat) (h : mH) (v2_ : Int32), mY l Θ d M_G_survey 7 [some (.ref f0_), some (.ref f1_), some (.int v2_), none] [] h (tR vU) (P_G_survey_7 Θ N K71 f0_ f1_ n h v2_) :=
  fun n => lp_all (C := fun (rc : mH → Int32 → Option (Unit × mH)) => ∀ (h : mH) (v2_ : Int32), mY l Θ d M_G_survey 7 [some (.ref f0_), some (.ref f1_), some (.int v2_), none] [] h (tR vU) (rc h v2_)) (fun _ _ => y_none) (fun rc ih => SB_G_survey_7 hfl hD hK71 rc ih) n
theorem SB_G_survey_80 (hfl : HF l Θ) (hD : 3 ≤ d) {K117 : mH → Int32 → Option (Unit × mH)} {f0_ : Nat} {f1_ : Nat}  (hK117 : ∀ (h : mH) (v2_ : Int32), mY l Θ d M_G_survey 117 [some (.ref f0_), none, some (.int v2_), none] [] h (tR vU) (K117 h v2_)) (rc : mH → Int32 → Int32 → Option (Unit × mH)) (ih : ∀ (h : mH) (v2_ : Int32) (v3_ : Int32), mY l Θ d M_G_survey 80 [some (.ref f0_), some (.ref f1_), some (.int v2_), some (.int v3_)] [] h (tR vU) (rc h v2_ v3_)) : ∀ (h : mH) (v2_ : Int32) (v3_ : Int32), mY l Θ d M_G_survey 80 [some (.ref f0_), some (.ref f1_), some (.int v2_), some (.int v3_)] [] h (tR vU) (B_G_survey_80 Θ N K117 f0_ f1_ rc h v2_ v3_) := by
  intro h v2_ v3_
  unfold B_G_survey_80
  refine y_iload_n d_G_survey_80 rfl ?_
  refine y_bipush (v := (J 60)) d_G_survey_81 (by decide +kernel) ?_
  refine y_icmp_ge (tgt := 117) d_G_survey_83 (by decide) ?_ ?_
  · exact y_wk (loc2 := [some (.ref f0_), none, some (.int v2_), none]) ⟨rfl, ⟨rfl, trivial⟩⟩ (hK117 h v2_)
  · refine y_aload_n d_G_survey_86 rfl ?_
    refine y_getA d_G_survey_87 f_G_55 (fun v22 => ?_)
    refine y_iload_n d_G_survey_90 rfl ?_
    refine y_iconst (v := (J 1)) d_G_survey_91 rfl ?_
    refine y_gO (fun fs1 g1 => y_cN (c_vi (rest := []) d_G_survey_92 k_L_overlapping s_G_77 (Or.inl ⟨_, _, _, g1, rfl, rfl⟩) rfl rfl (Nat.le_of_ble_eq_true rfl) (Nat.le_trans (Nat.le_of_ble_eq_true rfl : 2 + 1 ≤ 3) hD) (S_L_overlapping hfl (Nat.le_refl _) h v22 v3_ (J 1))) (fun v24 h23 => ?_) (fun h25 => ?_))
    · refine y_jn (C := fun (j9 : mH → Int32 → Option (Unit × mH)) => ∀ (h27 : mH) (u28 : Int32), mY l Θ d M_G_survey 111 [some (.ref f0_), some (.ref f1_), some (.int u28), some (.int v3_)] [] h27 (tR vU) (j9 h27 u28)) (fun h27 u28 => ?_) (fun j26 Hj26 => ?_)
      · refine y_iinc (v := (v3_ + (J 1))) (loc2 := [some (.ref f0_), some (.ref f1_), some (.int u28), some (.int (v3_ + (J 1)))]) d_G_survey_111 rfl rfl (Nat.le_of_ble_eq_true rfl) rfl rfl ?_
        refine y_goto (tgt := 80) d_G_survey_114 (by decide) ?_
        exact ih h27 u28 (v3_ + (J 1))
      · refine y_ifnonnull (tgt := 104) d_G_survey_95 (by decide) ?_
        refine y_aload_n d_G_survey_104 rfl ?_
        refine y_iload_n d_G_survey_105 rfl ?_
        refine y_gO (fun fs1 g1 => y_cU (c_vi (rest := []) d_G_survey_106 k_G_addGap s_G_81 (Or.inl ⟨_, _, _, g1, rfl, rfl⟩) rfl rfl (Nat.le_of_ble_eq_true rfl) (Nat.le_trans (Nat.le_of_ble_eq_true rfl : 1 + 1 ≤ 3) hD) (S_G_addGap hfl (Nat.le_refl _) h23 f0_ v2_)) (fun v30 h29 => ?_))
        refine y_iconst (v := (J 0)) d_G_survey_109 rfl ?_
        refine y_istore_n (loc2 := [some (.ref f0_), some (.ref f1_), some (.int (J 0)), some (.int v3_)]) d_G_survey_110 (Nat.le_of_ble_eq_true rfl) rfl rfl ?_
        exact Hj26 h29 (J 0)
    · refine y_jn (C := fun (j9 : mH → Int32 → Option (Unit × mH)) => ∀ (h32 : mH) (u33 : Int32), mY l Θ d M_G_survey 111 [some (.ref f0_), some (.ref f1_), some (.int u33), some (.int v3_)] [] h32 (tR vU) (j9 h32 u33)) (fun h32 u33 => ?_) (fun j31 Hj31 => ?_)
      · refine y_iinc (v := (v3_ + (J 1))) (loc2 := [some (.ref f0_), some (.ref f1_), some (.int u33), some (.int (v3_ + (J 1)))]) d_G_survey_111 rfl rfl (Nat.le_of_ble_eq_true rfl) rfl rfl ?_
        refine y_goto (tgt := 80) d_G_survey_114 (by decide) ?_
        exact ih h32 u33 (v3_ + (J 1))
      · refine y_ifnonnullN d_G_survey_95 ?_
        refine y_iinc (v := (v2_ + (J 1))) (loc2 := [some (.ref f0_), some (.ref f1_), some (.int (v2_ + (J 1))), some (.int v3_)]) d_G_survey_98 rfl rfl (Nat.le_of_ble_eq_true rfl) rfl rfl ?_
        refine y_goto (tgt := 111) d_G_survey_101 (by decide) ?_
        exact Hj31 h25 (v2_ + (J 1))
theorem S_G_survey_80 (hfl : HF l Θ) (hD : 3 ≤ d) {K117 : mH → Int32 → Option (Unit × mH)} {f0_ : Nat} {f1_ : Nat}  (hK117 : ∀ (h : mH) (v2_ : Int32), mY l Θ d M_G_survey 117 [some (.ref f0_), none, some (.int v2_), none] [] h (tR vU) (K117 h v2_)) : ∀ (n : Nat) (h : mH) (v2_ : Int32) (v3_ : Int32), mY l Θ d M_G_survey 80 [some (.ref f0_), some (.ref f1_), some (.int v2_), some (.int v3_)] [] h (tR vU) (P_G_survey_80 Θ N K117 f0_ f1_ n h v2_ v3_) :=
  fun n => lp_all (C := fun (rc : mH → Int32 → Int32 → Option (Unit × mH)) => ∀ (h : mH) (v2_ : Int32) (v3_ : Int32), mY l Θ d M_G_survey 80 [some (.ref f0_), some (.ref f1_), some (.int v2_), some (.int v3_)] [] h (tR vU) (rc h v2_ v3_)) (fun _ _ _ => y_none) (fun rc ih => SB_G_survey_80 hfl hD hK117 rc ih) n
theorem S_G_survey (hfl : HF l Θ) (hD : 3 ≤ d) (h : mH) (a0 : Nat) (a1 : Nat) : mMs l Θ d M_G_survey [.ref a0, .ref a1] h (tR vU) (P_G_survey Θ N h a0 a1) := by
  refine mMs.of hfl (by decide +kernel) rfl (Nat.le_of_ble_eq_true rfl) (loc := [some (.ref a0), some (.ref a1), none, none]) rfl ?_
  unfold P_G_survey
  refine y_aload_n d_G_survey_0 rfl ?_
  refine y_iconst (v := (J 0)) d_G_survey_1 rfl ?_
  refine y_put d_G_survey_2 p_G_22 rfl rfl (fun h1 => ?_)
  refine y_iconst (v := (J 0)) d_G_survey_5 rfl ?_
  refine y_istore_n (loc2 := [some (.ref a0), some (.ref a1), some (.int (J 0)), none]) d_G_survey_6 (Nat.le_of_ble_eq_true rfl) rfl rfl ?_
  refine S_G_survey_7 hfl hD (fun h20 => ?_) N h1 (J 0)
  refine y_aload_n d_G_survey_71 rfl ?_
  refine y_iconst (v := (J 0)) d_G_survey_72 rfl ?_
  refine y_put d_G_survey_73 p_G_15 rfl rfl (fun h21 => ?_)
  refine y_iconst (v := (J 0)) d_G_survey_76 rfl ?_
  refine y_istore_n (loc2 := [some (.ref a0), some (.ref a1), some (.int (J 0)), none]) d_G_survey_77 (Nat.le_of_ble_eq_true rfl) rfl rfl ?_
  refine y_iconst (v := (J 0)) d_G_survey_78 rfl ?_
  refine y_istore_n (loc2 := [some (.ref a0), some (.ref a1), some (.int (J 0)), some (.int (J 0))]) d_G_survey_79 (Nat.le_of_ble_eq_true rfl) rfl rfl ?_
  refine S_G_survey_80 hfl hD (fun h34 u35 => ?_) N h21 (J 0) (J 0)
  refine y_aload_n d_G_survey_117 rfl ?_
  refine y_iload_n d_G_survey_118 rfl ?_
  refine y_gO (fun fs1 g1 => y_cU (c_vi (rest := []) d_G_survey_119 k_G_addGap s_G_81 (Or.inl ⟨_, _, _, g1, rfl, rfl⟩) rfl rfl (Nat.le_of_ble_eq_true rfl) (Nat.le_trans (Nat.le_of_ble_eq_true rfl : 1 + 1 ≤ 3) hD) (S_G_addGap hfl (Nat.le_refl _) h34 a0 u35)) (fun v37 h36 => ?_))
  exact y_retU d_G_survey_122 rfl
noncomputable def P_G_mostByTrying (Θ : mW) (N : Nat) (h : mH) (a0 : Nat) (a1 : Nat) : Option (Int32 × mH) :=
  (gO Θ h 6 a0 (bc (P_G_survey Θ N h a0 a1) (fun v2 h1 => (bc (P_G_mostFrom Θ N 9 h1 a0 (J 0)) (fun v4 h3 => (some (v4, h3)))))))
theorem S_G_mostByTrying (hfl : HF l Θ) (hD : 11 ≤ d) (h : mH) (a0 : Nat) (a1 : Nat) : mMs l Θ d M_G_mostByTrying [.ref a0, .ref a1] h (tR vI) (P_G_mostByTrying Θ N h a0 a1) := by
  refine mMs.of hfl (by decide +kernel) rfl (Nat.le_of_ble_eq_true rfl) (loc := [some (.ref a0), some (.ref a1)]) rfl ?_
  unfold P_G_mostByTrying
  refine y_aload_n d_G_mostByTrying_0 rfl ?_
  refine y_aload_n d_G_mostByTrying_1 rfl ?_
  refine y_gO (fun fs1 g1 => y_cU (c_vi (rest := []) d_G_mostByTrying_2 k_G_survey s_G_32 (Or.inl ⟨_, _, _, g1, rfl, rfl⟩) rfl rfl (Nat.le_of_ble_eq_true rfl) (Nat.le_trans (Nat.le_of_ble_eq_true rfl : 3 + 1 ≤ 11) hD) (S_G_survey hfl (Nat.le_refl _) h a0 a1)) (fun v2 h1 => ?_))
  refine y_aload_n d_G_mostByTrying_5 rfl ?_
  refine y_iconst (v := (J 0)) d_G_mostByTrying_6 rfl ?_
  refine y_cI (c_st (rest := []) d_G_mostByTrying_7 k_G_mostFrom s_G_36 rfl rfl (Nat.le_of_ble_eq_true rfl) (Nat.le_trans (Nat.le_of_ble_eq_true rfl : 10 + 1 ≤ 11) hD) (S_G_mostFrom hfl 9 (Nat.le_refl _) h1 a0 (J 0))) (fun v4 h3 => ?_)
  exact y_retI d_G_mostByTrying_10 rfl rfl
noncomputable def B_G_fitsWith_2 (Θ : mW) (N : Nat) (K38 : mH → Option (Int32 × mH)) (f0_ : Nat) (f1_ : Int32) (f2_ : Int32) (rc : mH → Int32 → Option (Int32 × mH)) (h : mH) (v3_ : Int32) : Option (Int32 × mH) :=
  (if v3_ ≤ 0 then (K38 h) else (bo (rA Θ h 6 f0_ 4) (fun v1 => (bo (aR Θ h 0 v1 v3_) (fun v2 => (jn (fun (h4 : mH) => (rc h4 ((v3_ - (J 1)) &&& f1_))) (fun j3 => (if f2_ < v2 then (j3 h) else (bo (rA Θ h 6 f0_ 5) (fun v5 => (bo (aR Θ h 1 v5 (f1_ - v3_)) (fun v6 => (if v6 = 0 then (j3 h) else (some ((J 1), h)))))))))))))))
noncomputable def P_G_fitsWith_2 (Θ : mW) (N : Nat) (K38 : mH → Option (Int32 × mH)) (f0_ : Nat) (f1_ : Int32) (f2_ : Int32) : Nat → mH → Int32 → Option (Int32 × mH) :=
  lp (fun _ _ => none) (B_G_fitsWith_2 Θ N K38 f0_ f1_ f2_)
noncomputable def P_G_fitsWith (Θ : mW) (N : Nat) (h : mH) (a0 : Nat) (a1 : Int32) (a2 : Int32) : Option (Int32 × mH) :=
  (P_G_fitsWith_2 Θ N (fun h7 => (some ((J 0), h7))) a0 a1 a2 N h a1)
theorem SB_G_fitsWith_2 (hfl : HF l Θ) (hD : 1 ≤ d) {K38 : mH → Option (Int32 × mH)} {f0_ : Nat} {f1_ : Int32} {f2_ : Int32}  (hK38 : ∀ (h : mH), mY l Θ d M_G_fitsWith 38 [none, none, none, none] [] h (tR vI) (K38 h)) (rc : mH → Int32 → Option (Int32 × mH)) (ih : ∀ (h : mH) (v3_ : Int32), mY l Θ d M_G_fitsWith 2 [some (.ref f0_), some (.int f1_), some (.int f2_), some (.int v3_)] [] h (tR vI) (rc h v3_)) : ∀ (h : mH) (v3_ : Int32), mY l Θ d M_G_fitsWith 2 [some (.ref f0_), some (.int f1_), some (.int f2_), some (.int v3_)] [] h (tR vI) (B_G_fitsWith_2 Θ N K38 f0_ f1_ f2_ rc h v3_) := by
  intro h v3_
  unfold B_G_fitsWith_2
  refine y_iload_n d_G_fitsWith_2 rfl ?_
  refine y_if_le (tgt := 38) d_G_fitsWith_3 (by decide) ?_ ?_
  · exact y_wk (loc2 := [none, none, none, none]) trivial (hK38 h)
  · refine y_aload_n d_G_fitsWith_6 rfl ?_
    refine y_getA d_G_fitsWith_7 f_G_25 (fun v1 => ?_)
    refine y_iload_n d_G_fitsWith_10 rfl ?_
    refine y_iald d_G_fitsWith_11 (fun v2 => ?_)
    refine y_iload_n d_G_fitsWith_12 rfl ?_
    refine y_jn (C := fun (j9 : mH → Option (Int32 × mH)) => ∀ (h4 : mH), mY l Θ d M_G_fitsWith 29 [some (.ref f0_), some (.int f1_), some (.int f2_), some (.int v3_)] [] h4 (tR vI) (j9 h4)) (fun h4 => ?_) (fun j3 Hj3 => ?_)
    · refine y_iload_n d_G_fitsWith_29 rfl ?_
      refine y_iconst (v := (J 1)) d_G_fitsWith_30 rfl ?_
      refine y_isub (v := (v3_ - (J 1))) d_G_fitsWith_31 rfl ?_
      refine y_iload_n d_G_fitsWith_32 rfl ?_
      refine y_iand (v := ((v3_ - (J 1)) &&& f1_)) d_G_fitsWith_33 rfl ?_
      refine y_istore_n (loc2 := [some (.ref f0_), some (.int f1_), some (.int f2_), some (.int ((v3_ - (J 1)) &&& f1_))]) d_G_fitsWith_34 (Nat.le_of_ble_eq_true rfl) rfl rfl ?_
      refine y_goto (tgt := 2) d_G_fitsWith_35 (by decide) ?_
      exact ih h4 ((v3_ - (J 1)) &&& f1_)
    · refine y_icmp_gt (tgt := 29) d_G_fitsWith_13 (by decide) ?_ ?_
      · exact Hj3 h
      · refine y_aload_n d_G_fitsWith_16 rfl ?_
        refine y_getA d_G_fitsWith_17 f_G_28 (fun v5 => ?_)
        refine y_iload_n d_G_fitsWith_20 rfl ?_
        refine y_iload_n d_G_fitsWith_21 rfl ?_
        refine y_isub (v := (f1_ - v3_)) d_G_fitsWith_22 rfl ?_
        refine y_zald d_G_fitsWith_23 (fun v6 => ?_)
        refine y_if_eq (tgt := 29) d_G_fitsWith_24 (by decide) ?_ ?_
        · exact Hj3 h
        · refine y_iconst (v := (J 1)) d_G_fitsWith_27 rfl ?_
          exact y_retI d_G_fitsWith_28 rfl (by decide +kernel)
theorem S_G_fitsWith_2 (hfl : HF l Θ) (hD : 1 ≤ d) {K38 : mH → Option (Int32 × mH)} {f0_ : Nat} {f1_ : Int32} {f2_ : Int32}  (hK38 : ∀ (h : mH), mY l Θ d M_G_fitsWith 38 [none, none, none, none] [] h (tR vI) (K38 h)) : ∀ (n : Nat) (h : mH) (v3_ : Int32), mY l Θ d M_G_fitsWith 2 [some (.ref f0_), some (.int f1_), some (.int f2_), some (.int v3_)] [] h (tR vI) (P_G_fitsWith_2 Θ N K38 f0_ f1_ f2_ n h v3_) :=
  fun n => lp_all (C := fun (rc : mH → Int32 → Option (Int32 × mH)) => ∀ (h : mH) (v3_ : Int32), mY l Θ d M_G_fitsWith 2 [some (.ref f0_), some (.int f1_), some (.int f2_), some (.int v3_)] [] h (tR vI) (rc h v3_)) (fun _ _ => y_none) (fun rc ih => SB_G_fitsWith_2 hfl hD hK38 rc ih) n
theorem S_G_fitsWith (hfl : HF l Θ) (hD : 1 ≤ d) (h : mH) (a0 : Nat) (a1 : Int32) (a2 : Int32) : mMs l Θ d M_G_fitsWith [.ref a0, .int a1, .int a2] h (tR vI) (P_G_fitsWith Θ N h a0 a1 a2) := by
  refine mMs.of hfl (by decide +kernel) rfl (Nat.le_of_ble_eq_true rfl) (loc := [some (.ref a0), some (.int a1), some (.int a2), none]) rfl ?_
  unfold P_G_fitsWith
  refine y_iload_n d_G_fitsWith_0 rfl ?_
  refine y_istore_n (loc2 := [some (.ref a0), some (.int a1), some (.int a2), some (.int a1)]) d_G_fitsWith_1 (Nat.le_of_ble_eq_true rfl) rfl rfl ?_
  refine S_G_fitsWith_2 hfl hD (fun h7 => ?_) N h a1
  refine y_iconst (v := (J 0)) d_G_fitsWith_38 rfl ?_
  exact y_retI d_G_fitsWith_39 rfl (by decide +kernel)
noncomputable def B_G_fillGap_9 (Θ : mW) (N : Nat) (K48 : mH → Option (Unit × mH)) (f0_ : Nat) (f1_ : Int32) (rc : mH → Int32 → Option (Unit × mH)) (h : mH) (v2_ : Int32) : Option (Unit × mH) :=
  (if v2_ ≤ 0 then (K48 h) else (bo (rA Θ h 6 f0_ 5) (fun v2 => (bo (rA Θ h 6 f0_ 5) (fun v3 => (bo (aR Θ h 1 v3 v2_) (fun v4 => (jn (fun (h6 : mH) (s7 : Int32) => (bo (aW Θ h6 1 v2 v2_ (vp_nar .boolean s7)) (fun h8 => (rc h8 (v2_ + (J (-1))))))) (fun j5 => (jn (fun (h10 : mH) => (j5 h10 (J 1))) (fun j9 => (if v4 = 0 then (gO Θ h 6 f0_ (bc (P_G_fitsWith Θ N h f0_ v2_ f1_) (fun v12 h11 => (if v12 = 0 then (j5 h11 (J 0)) else (j9 h11))))) else (j9 h)))))))))))))
noncomputable def P_G_fillGap_9 (Θ : mW) (N : Nat) (K48 : mH → Option (Unit × mH)) (f0_ : Nat) (f1_ : Int32) : Nat → mH → Int32 → Option (Unit × mH) :=
  lp (fun _ _ => none) (B_G_fillGap_9 Θ N K48 f0_ f1_)
noncomputable def P_G_fillGap (Θ : mW) (N : Nat) (h : mH) (a0 : Nat) (a1 : Int32) : Option (Unit × mH) :=
  (bo (rI Θ h 6 a0 3) (fun v1 => (P_G_fillGap_9 Θ N (fun h13 => (some ((), h13))) a0 a1 N h (((J 1) <<< (v1 &&& 31)) - (J 1)))))
theorem SB_G_fillGap_9 (hfl : HF l Θ) (hD : 2 ≤ d) {K48 : mH → Option (Unit × mH)} {f0_ : Nat} {f1_ : Int32}  (hK48 : ∀ (h : mH), mY l Θ d M_G_fillGap 48 [none, none, none] [] h (tR vU) (K48 h)) (rc : mH → Int32 → Option (Unit × mH)) (ih : ∀ (h : mH) (v2_ : Int32), mY l Θ d M_G_fillGap 9 [some (.ref f0_), some (.int f1_), some (.int v2_)] [] h (tR vU) (rc h v2_)) : ∀ (h : mH) (v2_ : Int32), mY l Θ d M_G_fillGap 9 [some (.ref f0_), some (.int f1_), some (.int v2_)] [] h (tR vU) (B_G_fillGap_9 Θ N K48 f0_ f1_ rc h v2_) := by
  intro h v2_
  unfold B_G_fillGap_9
  refine y_iload_n d_G_fillGap_9 rfl ?_
  refine y_if_le (tgt := 48) d_G_fillGap_10 (by decide) ?_ ?_
  · exact y_wk (loc2 := [none, none, none]) trivial (hK48 h)
  · refine y_aload_n d_G_fillGap_13 rfl ?_
    refine y_getA d_G_fillGap_14 f_G_28 (fun v2 => ?_)
    refine y_iload_n d_G_fillGap_17 rfl ?_
    refine y_aload_n d_G_fillGap_18 rfl ?_
    refine y_getA d_G_fillGap_19 f_G_28 (fun v3 => ?_)
    refine y_iload_n d_G_fillGap_22 rfl ?_
    refine y_zald d_G_fillGap_23 (fun v4 => ?_)
    refine y_jn (C := fun (j9 : mH → Int32 → Option (Unit × mH)) => ∀ (h6 : mH) (s7 : Int32), mY l Θ d M_G_fillGap 41 [some (.ref f0_), some (.int f1_), some (.int v2_)] [.int s7, .int v2_, .ref v2] h6 (tR vU) (j9 h6 s7)) (fun h6 s7 => ?_) (fun j5 Hj5 => ?_)
    · refine y_zast d_G_fillGap_41 (fun h8 => ?_)
      refine y_iinc (v := (v2_ + (J (-1)))) (loc2 := [some (.ref f0_), some (.int f1_), some (.int (v2_ + (J (-1))))]) d_G_fillGap_42 rfl rfl (Nat.le_of_ble_eq_true rfl) rfl rfl ?_
      refine y_goto (tgt := 9) d_G_fillGap_45 (by decide) ?_
      exact ih h8 (v2_ + (J (-1)))
    · refine y_jn (C := fun (j9 : mH → Option (Unit × mH)) => ∀ (h10 : mH), mY l Θ d M_G_fillGap 36 [some (.ref f0_), some (.int f1_), some (.int v2_)] [.int v2_, .ref v2] h10 (tR vU) (j9 h10)) (fun h10 => ?_) (fun j9 Hj9 => ?_)
      · refine y_iconst (v := (J 1)) d_G_fillGap_36 rfl ?_
        refine y_goto (tgt := 41) d_G_fillGap_37 (by decide) ?_
        exact Hj5 h10 (J 1)
      · refine y_if_ne (tgt := 36) d_G_fillGap_24 (by decide) ?_ ?_
        · exact Hj9 h
        · refine y_aload_n d_G_fillGap_27 rfl ?_
          refine y_iload_n d_G_fillGap_28 rfl ?_
          refine y_iload_n d_G_fillGap_29 rfl ?_
          refine y_gO (fun fs1 g1 => y_cI (c_vi (rest := [.int v2_, .ref v2]) d_G_fillGap_30 k_G_fitsWith s_G_91 (Or.inl ⟨_, _, _, g1, rfl, rfl⟩) rfl rfl (Nat.le_of_ble_eq_true rfl) (Nat.le_trans (Nat.le_of_ble_eq_true rfl : 1 + 1 ≤ 2) hD) (S_G_fitsWith hfl (Nat.le_refl _) h f0_ v2_ f1_)) (fun v12 h11 => ?_))
          refine y_if_eq (tgt := 40) d_G_fillGap_33 (by decide) ?_ ?_
          · refine y_iconst (v := (J 0)) d_G_fillGap_40 rfl ?_
            exact Hj5 h11 (J 0)
          · exact Hj9 h11
theorem S_G_fillGap_9 (hfl : HF l Θ) (hD : 2 ≤ d) {K48 : mH → Option (Unit × mH)} {f0_ : Nat} {f1_ : Int32}  (hK48 : ∀ (h : mH), mY l Θ d M_G_fillGap 48 [none, none, none] [] h (tR vU) (K48 h)) : ∀ (n : Nat) (h : mH) (v2_ : Int32), mY l Θ d M_G_fillGap 9 [some (.ref f0_), some (.int f1_), some (.int v2_)] [] h (tR vU) (P_G_fillGap_9 Θ N K48 f0_ f1_ n h v2_) :=
  fun n => lp_all (C := fun (rc : mH → Int32 → Option (Unit × mH)) => ∀ (h : mH) (v2_ : Int32), mY l Θ d M_G_fillGap 9 [some (.ref f0_), some (.int f1_), some (.int v2_)] [] h (tR vU) (rc h v2_)) (fun _ _ => y_none) (fun rc ih => SB_G_fillGap_9 hfl hD hK48 rc ih) n
theorem S_G_fillGap (hfl : HF l Θ) (hD : 2 ≤ d) (h : mH) (a0 : Nat) (a1 : Int32) : mMs l Θ d M_G_fillGap [.ref a0, .int a1] h (tR vU) (P_G_fillGap Θ N h a0 a1) := by
  refine mMs.of hfl (by decide +kernel) rfl (Nat.le_of_ble_eq_true rfl) (loc := [some (.ref a0), some (.int a1), none]) rfl ?_
  unfold P_G_fillGap
  refine y_iconst (v := (J 1)) d_G_fillGap_0 rfl ?_
  refine y_aload_n d_G_fillGap_1 rfl ?_
  refine y_getI d_G_fillGap_2 f_G_22 (fun v1 => ?_)
  refine y_ishl (v := ((J 1) <<< (v1 &&& 31))) d_G_fillGap_5 rfl ?_
  refine y_iconst (v := (J 1)) d_G_fillGap_6 rfl ?_
  refine y_isub (v := (((J 1) <<< (v1 &&& 31)) - (J 1))) d_G_fillGap_7 rfl ?_
  refine y_istore_n (loc2 := [some (.ref a0), some (.int a1), some (.int (((J 1) <<< (v1 &&& 31)) - (J 1)))]) d_G_fillGap_8 (Nat.le_of_ble_eq_true rfl) rfl rfl ?_
  refine S_G_fillGap_9 hfl hD (fun h13 => ?_) N h (((J 1) <<< (v1 &&& 31)) - (J 1))
  exact y_retU d_G_fillGap_48 rfl
noncomputable def B_G_sumOf_4 (Θ : mW) (N : Nat) (K35 : mH → Int32 → Option (Int32 × mH)) (f0_ : Nat) (f1_ : Int32) (rc : mH → Int32 → Int32 → Option (Int32 × mH)) (h : mH) (v2_ : Int32) (v3_ : Int32) : Option (Int32 × mH) :=
  (bo (rI Θ h 6 f0_ 3) (fun v1 => (if v1 ≤ v3_ then (K35 h v2_) else (jn (fun (h3 : mH) (u4 : Int32) => (rc h3 u4 (v3_ + (J 1)))) (fun j2 => (if ((f1_ >>> (v3_ &&& 31)) &&& (J 1)) = 0 then (j2 h v2_) else (bo (rA Θ h 6 f0_ 2) (fun v5 => (bo (aR Θ h 0 v5 v3_) (fun v6 => (j2 h (v2_ + v6))))))))))))
noncomputable def P_G_sumOf_4 (Θ : mW) (N : Nat) (K35 : mH → Int32 → Option (Int32 × mH)) (f0_ : Nat) (f1_ : Int32) : Nat → mH → Int32 → Int32 → Option (Int32 × mH) :=
  lp (fun _ _ _ => none) (B_G_sumOf_4 Θ N K35 f0_ f1_)
noncomputable def P_G_sumOf (Θ : mW) (N : Nat) (h : mH) (a0 : Nat) (a1 : Int32) : Option (Int32 × mH) :=
  (P_G_sumOf_4 Θ N (fun h7 u8 => (some (u8, h7))) a0 a1 N h (J 0) (J 0))
theorem SB_G_sumOf_4 (hfl : HF l Θ) (hD : 1 ≤ d) {K35 : mH → Int32 → Option (Int32 × mH)} {f0_ : Nat} {f1_ : Int32}  (hK35 : ∀ (h : mH) (v2_ : Int32), mY l Θ d M_G_sumOf 35 [none, none, some (.int v2_), none] [] h (tR vI) (K35 h v2_)) (rc : mH → Int32 → Int32 → Option (Int32 × mH)) (ih : ∀ (h : mH) (v2_ : Int32) (v3_ : Int32), mY l Θ d M_G_sumOf 4 [some (.ref f0_), some (.int f1_), some (.int v2_), some (.int v3_)] [] h (tR vI) (rc h v2_ v3_)) : ∀ (h : mH) (v2_ : Int32) (v3_ : Int32), mY l Θ d M_G_sumOf 4 [some (.ref f0_), some (.int f1_), some (.int v2_), some (.int v3_)] [] h (tR vI) (B_G_sumOf_4 Θ N K35 f0_ f1_ rc h v2_ v3_) := by
  intro h v2_ v3_
  unfold B_G_sumOf_4
  refine y_iload_n d_G_sumOf_4 rfl ?_
  refine y_aload_n d_G_sumOf_5 rfl ?_
  refine y_getI d_G_sumOf_6 f_G_22 (fun v1 => ?_)
  refine y_icmp_ge (tgt := 35) d_G_sumOf_9 (by decide) ?_ ?_
  · exact y_wk (loc2 := [none, none, some (.int v2_), none]) ⟨rfl, trivial⟩ (hK35 h v2_)
  · refine y_iload_n d_G_sumOf_12 rfl ?_
    refine y_iload_n d_G_sumOf_13 rfl ?_
    refine y_ishr (v := (f1_ >>> (v3_ &&& 31))) d_G_sumOf_14 rfl ?_
    refine y_iconst (v := (J 1)) d_G_sumOf_15 rfl ?_
    refine y_iand (v := ((f1_ >>> (v3_ &&& 31)) &&& (J 1))) d_G_sumOf_16 rfl ?_
    refine y_jn (C := fun (j9 : mH → Int32 → Option (Int32 × mH)) => ∀ (h3 : mH) (u4 : Int32), mY l Θ d M_G_sumOf 29 [some (.ref f0_), some (.int f1_), some (.int u4), some (.int v3_)] [] h3 (tR vI) (j9 h3 u4)) (fun h3 u4 => ?_) (fun j2 Hj2 => ?_)
    · refine y_iinc (v := (v3_ + (J 1))) (loc2 := [some (.ref f0_), some (.int f1_), some (.int u4), some (.int (v3_ + (J 1)))]) d_G_sumOf_29 rfl rfl (Nat.le_of_ble_eq_true rfl) rfl rfl ?_
      refine y_goto (tgt := 4) d_G_sumOf_32 (by decide) ?_
      exact ih h3 u4 (v3_ + (J 1))
    · refine y_if_eq (tgt := 29) d_G_sumOf_17 (by decide) ?_ ?_
      · exact Hj2 h v2_
      · refine y_iload_n d_G_sumOf_20 rfl ?_
        refine y_aload_n d_G_sumOf_21 rfl ?_
        refine y_getA d_G_sumOf_22 f_G_19 (fun v5 => ?_)
        refine y_iload_n d_G_sumOf_25 rfl ?_
        refine y_iald d_G_sumOf_26 (fun v6 => ?_)
        refine y_iadd (v := (v2_ + v6)) d_G_sumOf_27 rfl ?_
        refine y_istore_n (loc2 := [some (.ref f0_), some (.int f1_), some (.int (v2_ + v6)), some (.int v3_)]) d_G_sumOf_28 (Nat.le_of_ble_eq_true rfl) rfl rfl ?_
        exact Hj2 h (v2_ + v6)
theorem S_G_sumOf_4 (hfl : HF l Θ) (hD : 1 ≤ d) {K35 : mH → Int32 → Option (Int32 × mH)} {f0_ : Nat} {f1_ : Int32}  (hK35 : ∀ (h : mH) (v2_ : Int32), mY l Θ d M_G_sumOf 35 [none, none, some (.int v2_), none] [] h (tR vI) (K35 h v2_)) : ∀ (n : Nat) (h : mH) (v2_ : Int32) (v3_ : Int32), mY l Θ d M_G_sumOf 4 [some (.ref f0_), some (.int f1_), some (.int v2_), some (.int v3_)] [] h (tR vI) (P_G_sumOf_4 Θ N K35 f0_ f1_ n h v2_ v3_) :=
  fun n => lp_all (C := fun (rc : mH → Int32 → Int32 → Option (Int32 × mH)) => ∀ (h : mH) (v2_ : Int32) (v3_ : Int32), mY l Θ d M_G_sumOf 4 [some (.ref f0_), some (.int f1_), some (.int v2_), some (.int v3_)] [] h (tR vI) (rc h v2_ v3_)) (fun _ _ _ => y_none) (fun rc ih => SB_G_sumOf_4 hfl hD hK35 rc ih) n
theorem S_G_sumOf (hfl : HF l Θ) (hD : 1 ≤ d) (h : mH) (a0 : Nat) (a1 : Int32) : mMs l Θ d M_G_sumOf [.ref a0, .int a1] h (tR vI) (P_G_sumOf Θ N h a0 a1) := by
  refine mMs.of hfl (by decide +kernel) rfl (Nat.le_of_ble_eq_true rfl) (loc := [some (.ref a0), some (.int a1), none, none]) rfl ?_
  unfold P_G_sumOf
  refine y_iconst (v := (J 0)) d_G_sumOf_0 rfl ?_
  refine y_istore_n (loc2 := [some (.ref a0), some (.int a1), some (.int (J 0)), none]) d_G_sumOf_1 (Nat.le_of_ble_eq_true rfl) rfl rfl ?_
  refine y_iconst (v := (J 0)) d_G_sumOf_2 rfl ?_
  refine y_istore_n (loc2 := [some (.ref a0), some (.int a1), some (.int (J 0)), some (.int (J 0))]) d_G_sumOf_3 (Nat.le_of_ble_eq_true rfl) rfl rfl ?_
  refine S_G_sumOf_4 hfl hD (fun h7 u8 => ?_) N h (J 0) (J 0)
  refine y_iload_n d_G_sumOf_35 rfl ?_
  exact y_retI d_G_sumOf_36 rfl rfl
noncomputable def B_G_fillTable_2 (Θ : mW) (N : Nat) (K44 : mH → Option (Unit × mH)) (f0_ : Nat) (rc : mH → Int32 → Option (Unit × mH)) (h : mH) (v1_ : Int32) : Option (Unit × mH) :=
  (bo (rI Θ h 6 f0_ 3) (fun v1 => (if ((J 1) <<< (v1 &&& 31)) ≤ v1_ then (K44 h) else (bo (rA Θ h 6 f0_ 4) (fun v2 => (gO Θ h 6 f0_ (bc (P_G_sumOf Θ N h f0_ v1_) (fun v4 h3 => (bo (aW Θ h3 0 v2 v1_ v4) (fun h5 => (bo (rA Θ h5 6 f0_ 5) (fun v6 => (jn (fun (h8 : mH) (s9 : Int32) => (bo (aW Θ h8 1 v6 v1_ (vp_nar .boolean s9)) (fun h10 => (rc h10 (v1_ + (J 1)))))) (fun j7 => (if v1_ = 0 then (j7 h5 (J 1)) else (j7 h5 (J 0)))))))))))))))))
noncomputable def P_G_fillTable_2 (Θ : mW) (N : Nat) (K44 : mH → Option (Unit × mH)) (f0_ : Nat) : Nat → mH → Int32 → Option (Unit × mH) :=
  lp (fun _ _ => none) (B_G_fillTable_2 Θ N K44 f0_)
noncomputable def B_G_fillTable_46 (Θ : mW) (N : Nat) (K70 : mH → Option (Unit × mH)) (f0_ : Nat) (rc : mH → Int32 → Option (Unit × mH)) (h : mH) (v1_ : Int32) : Option (Unit × mH) :=
  (bo (rI Θ h 6 f0_ 1) (fun v12 => (if v12 ≤ v1_ then (K70 h) else (bo (rA Θ h 6 f0_ 0) (fun v13 => (bo (aR Θ h 0 v13 v1_) (fun v14 => (gO Θ h 6 f0_ (bc (P_G_fillGap Θ N h f0_ v14) (fun v16 h15 => (rc h15 (v1_ + (J 1)))))))))))))
noncomputable def P_G_fillTable_46 (Θ : mW) (N : Nat) (K70 : mH → Option (Unit × mH)) (f0_ : Nat) : Nat → mH → Int32 → Option (Unit × mH) :=
  lp (fun _ _ => none) (B_G_fillTable_46 Θ N K70 f0_)
noncomputable def P_G_fillTable (Θ : mW) (N : Nat) (h : mH) (a0 : Nat) : Option (Unit × mH) :=
  (P_G_fillTable_2 Θ N (fun h11 => (P_G_fillTable_46 Θ N (fun h17 => (some ((), h17))) a0 N h11 (J 0))) a0 N h (J 0))
theorem SB_G_fillTable_2 (hfl : HF l Θ) (hD : 3 ≤ d) {K44 : mH → Option (Unit × mH)} {f0_ : Nat}  (hK44 : ∀ (h : mH), mY l Θ d M_G_fillTable 44 [some (.ref f0_), none] [] h (tR vU) (K44 h)) (rc : mH → Int32 → Option (Unit × mH)) (ih : ∀ (h : mH) (v1_ : Int32), mY l Θ d M_G_fillTable 2 [some (.ref f0_), some (.int v1_)] [] h (tR vU) (rc h v1_)) : ∀ (h : mH) (v1_ : Int32), mY l Θ d M_G_fillTable 2 [some (.ref f0_), some (.int v1_)] [] h (tR vU) (B_G_fillTable_2 Θ N K44 f0_ rc h v1_) := by
  intro h v1_
  unfold B_G_fillTable_2
  refine y_iload_n d_G_fillTable_2 rfl ?_
  refine y_iconst (v := (J 1)) d_G_fillTable_3 rfl ?_
  refine y_aload_n d_G_fillTable_4 rfl ?_
  refine y_getI d_G_fillTable_5 f_G_22 (fun v1 => ?_)
  refine y_ishl (v := ((J 1) <<< (v1 &&& 31))) d_G_fillTable_8 rfl ?_
  refine y_icmp_ge (tgt := 44) d_G_fillTable_9 (by decide) ?_ ?_
  · exact y_wk (loc2 := [some (.ref f0_), none]) ⟨rfl, trivial⟩ (hK44 h)
  · refine y_aload_n d_G_fillTable_12 rfl ?_
    refine y_getA d_G_fillTable_13 f_G_25 (fun v2 => ?_)
    refine y_iload_n d_G_fillTable_16 rfl ?_
    refine y_aload_n d_G_fillTable_17 rfl ?_
    refine y_iload_n d_G_fillTable_18 rfl ?_
    refine y_gO (fun fs1 g1 => y_cI (c_vi (rest := [.int v1_, .ref v2]) d_G_fillTable_19 k_G_sumOf s_G_85 (Or.inl ⟨_, _, _, g1, rfl, rfl⟩) rfl rfl (Nat.le_of_ble_eq_true rfl) (Nat.le_trans (Nat.le_of_ble_eq_true rfl : 1 + 1 ≤ 3) hD) (S_G_sumOf hfl (Nat.le_refl _) h f0_ v1_)) (fun v4 h3 => ?_))
    refine y_iast d_G_fillTable_22 (fun h5 => ?_)
    refine y_aload_n d_G_fillTable_23 rfl ?_
    refine y_getA d_G_fillTable_24 f_G_28 (fun v6 => ?_)
    refine y_iload_n d_G_fillTable_27 rfl ?_
    refine y_iload_n d_G_fillTable_28 rfl ?_
    refine y_jn (C := fun (j9 : mH → Int32 → Option (Unit × mH)) => ∀ (h8 : mH) (s9 : Int32), mY l Θ d M_G_fillTable 37 [some (.ref f0_), some (.int v1_)] [.int s9, .int v1_, .ref v6] h8 (tR vU) (j9 h8 s9)) (fun h8 s9 => ?_) (fun j7 Hj7 => ?_)
    · refine y_zast d_G_fillTable_37 (fun h10 => ?_)
      refine y_iinc (v := (v1_ + (J 1))) (loc2 := [some (.ref f0_), some (.int (v1_ + (J 1)))]) d_G_fillTable_38 rfl rfl (Nat.le_of_ble_eq_true rfl) rfl rfl ?_
      refine y_goto (tgt := 2) d_G_fillTable_41 (by decide) ?_
      exact ih h10 (v1_ + (J 1))
    · refine y_if_ne (tgt := 36) d_G_fillTable_29 (by decide) ?_ ?_
      · refine y_iconst (v := (J 0)) d_G_fillTable_36 rfl ?_
        exact Hj7 h5 (J 0)
      · refine y_iconst (v := (J 1)) d_G_fillTable_32 rfl ?_
        refine y_goto (tgt := 37) d_G_fillTable_33 (by decide) ?_
        exact Hj7 h5 (J 1)
theorem S_G_fillTable_2 (hfl : HF l Θ) (hD : 3 ≤ d) {K44 : mH → Option (Unit × mH)} {f0_ : Nat}  (hK44 : ∀ (h : mH), mY l Θ d M_G_fillTable 44 [some (.ref f0_), none] [] h (tR vU) (K44 h)) : ∀ (n : Nat) (h : mH) (v1_ : Int32), mY l Θ d M_G_fillTable 2 [some (.ref f0_), some (.int v1_)] [] h (tR vU) (P_G_fillTable_2 Θ N K44 f0_ n h v1_) :=
  fun n => lp_all (C := fun (rc : mH → Int32 → Option (Unit × mH)) => ∀ (h : mH) (v1_ : Int32), mY l Θ d M_G_fillTable 2 [some (.ref f0_), some (.int v1_)] [] h (tR vU) (rc h v1_)) (fun _ _ => y_none) (fun rc ih => SB_G_fillTable_2 hfl hD hK44 rc ih) n
theorem SB_G_fillTable_46 (hfl : HF l Θ) (hD : 3 ≤ d) {K70 : mH → Option (Unit × mH)} {f0_ : Nat}  (hK70 : ∀ (h : mH), mY l Θ d M_G_fillTable 70 [none, none] [] h (tR vU) (K70 h)) (rc : mH → Int32 → Option (Unit × mH)) (ih : ∀ (h : mH) (v1_ : Int32), mY l Θ d M_G_fillTable 46 [some (.ref f0_), some (.int v1_)] [] h (tR vU) (rc h v1_)) : ∀ (h : mH) (v1_ : Int32), mY l Θ d M_G_fillTable 46 [some (.ref f0_), some (.int v1_)] [] h (tR vU) (B_G_fillTable_46 Θ N K70 f0_ rc h v1_) := by
  intro h v1_
  unfold B_G_fillTable_46
  refine y_iload_n d_G_fillTable_46 rfl ?_
  refine y_aload_n d_G_fillTable_47 rfl ?_
  refine y_getI d_G_fillTable_48 f_G_15 (fun v12 => ?_)
  refine y_icmp_ge (tgt := 70) d_G_fillTable_51 (by decide) ?_ ?_
  · exact y_wk (loc2 := [none, none]) trivial (hK70 h)
  · refine y_aload_n d_G_fillTable_54 rfl ?_
    refine y_aload_n d_G_fillTable_55 rfl ?_
    refine y_getA d_G_fillTable_56 f_G_9 (fun v13 => ?_)
    refine y_iload_n d_G_fillTable_59 rfl ?_
    refine y_iald d_G_fillTable_60 (fun v14 => ?_)
    refine y_gO (fun fs1 g1 => y_cU (c_vi (rest := []) d_G_fillTable_61 k_G_fillGap s_G_88 (Or.inl ⟨_, _, _, g1, rfl, rfl⟩) rfl rfl (Nat.le_of_ble_eq_true rfl) (Nat.le_trans (Nat.le_of_ble_eq_true rfl : 2 + 1 ≤ 3) hD) (S_G_fillGap hfl (Nat.le_refl _) h f0_ v14)) (fun v16 h15 => ?_))
    refine y_iinc (v := (v1_ + (J 1))) (loc2 := [some (.ref f0_), some (.int (v1_ + (J 1)))]) d_G_fillTable_64 rfl rfl (Nat.le_of_ble_eq_true rfl) rfl rfl ?_
    refine y_goto (tgt := 46) d_G_fillTable_67 (by decide) ?_
    exact ih h15 (v1_ + (J 1))
theorem S_G_fillTable_46 (hfl : HF l Θ) (hD : 3 ≤ d) {K70 : mH → Option (Unit × mH)} {f0_ : Nat}  (hK70 : ∀ (h : mH), mY l Θ d M_G_fillTable 70 [none, none] [] h (tR vU) (K70 h)) : ∀ (n : Nat) (h : mH) (v1_ : Int32), mY l Θ d M_G_fillTable 46 [some (.ref f0_), some (.int v1_)] [] h (tR vU) (P_G_fillTable_46 Θ N K70 f0_ n h v1_) :=
  fun n => lp_all (C := fun (rc : mH → Int32 → Option (Unit × mH)) => ∀ (h : mH) (v1_ : Int32), mY l Θ d M_G_fillTable 46 [some (.ref f0_), some (.int v1_)] [] h (tR vU) (rc h v1_)) (fun _ _ => y_none) (fun rc ih => SB_G_fillTable_46 hfl hD hK70 rc ih) n
theorem S_G_fillTable (hfl : HF l Θ) (hD : 3 ≤ d) (h : mH) (a0 : Nat) : mMs l Θ d M_G_fillTable [.ref a0] h (tR vU) (P_G_fillTable Θ N h a0) := by
  refine mMs.of hfl (by decide +kernel) rfl (Nat.le_of_ble_eq_true rfl) (loc := [some (.ref a0), none]) rfl ?_
  unfold P_G_fillTable
  refine y_iconst (v := (J 0)) d_G_fillTable_0 rfl ?_
  refine y_istore_n (loc2 := [some (.ref a0), some (.int (J 0))]) d_G_fillTable_1 (Nat.le_of_ble_eq_true rfl) rfl rfl ?_
  refine S_G_fillTable_2 hfl hD (fun h11 => ?_) N h (J 0)
  refine y_iconst (v := (J 0)) d_G_fillTable_44 rfl ?_
  refine y_istore_n (loc2 := [some (.ref a0), some (.int (J 0))]) d_G_fillTable_45 (Nat.le_of_ble_eq_true rfl) rfl rfl ?_
  refine S_G_fillTable_46 hfl hD (fun h17 => ?_) N h11 (J 0)
  exact y_retU d_G_fillTable_70 rfl
noncomputable def B_G_mostByTable_13 (Θ : mW) (N : Nat) (K47 : mH → Int32 → Option (Int32 × mH)) (f0_ : Nat) (rc : mH → Int32 → Int32 → Option (Int32 × mH)) (h : mH) (v2_ : Int32) (v3_ : Int32) : Option (Int32 × mH) :=
  (bo (rI Θ h 6 f0_ 3) (fun v5 => (if ((J 1) <<< (v5 &&& 31)) ≤ v3_ then (K47 h v2_) else (bo (rA Θ h 6 f0_ 5) (fun v6 => (bo (aR Θ h 1 v6 v3_) (fun v7 => (jn (fun (h9 : mH) (u10 : Int32) => (rc h9 u10 (v3_ + (J 1)))) (fun j8 => (if v7 = 0 then (j8 h v2_) else (bc (P_IN_bitCount Θ N h v3_) (fun v12 h11 => (j8 h11 (mxI v2_ v12))))))))))))))
noncomputable def P_G_mostByTable_13 (Θ : mW) (N : Nat) (K47 : mH → Int32 → Option (Int32 × mH)) (f0_ : Nat) : Nat → mH → Int32 → Int32 → Option (Int32 × mH) :=
  lp (fun _ _ _ => none) (B_G_mostByTable_13 Θ N K47 f0_)
noncomputable def P_G_mostByTable (Θ : mW) (N : Nat) (h : mH) (a0 : Nat) (a1 : Nat) : Option (Int32 × mH) :=
  (gO Θ h 6 a0 (bc (P_G_survey Θ N h a0 a1) (fun v2 h1 => (gO Θ h1 6 a0 (bc (P_G_fillTable Θ N h1 a0) (fun v4 h3 => (P_G_mostByTable_13 Θ N (fun h13 u14 => (some (u14, h13))) a0 N h3 (J 0) (J 0))))))))
theorem SB_G_mostByTable_13 (hfl : HF l Θ) (hD : 4 ≤ d) {K47 : mH → Int32 → Option (Int32 × mH)} {f0_ : Nat}  (hK47 : ∀ (h : mH) (v2_ : Int32), mY l Θ d M_G_mostByTable 47 [none, none, some (.int v2_), none] [] h (tR vI) (K47 h v2_)) (rc : mH → Int32 → Int32 → Option (Int32 × mH)) (ih : ∀ (h : mH) (v2_ : Int32) (v3_ : Int32), mY l Θ d M_G_mostByTable 13 [some (.ref f0_), none, some (.int v2_), some (.int v3_)] [] h (tR vI) (rc h v2_ v3_)) : ∀ (h : mH) (v2_ : Int32) (v3_ : Int32), mY l Θ d M_G_mostByTable 13 [some (.ref f0_), none, some (.int v2_), some (.int v3_)] [] h (tR vI) (B_G_mostByTable_13 Θ N K47 f0_ rc h v2_ v3_) := by
  intro h v2_ v3_
  unfold B_G_mostByTable_13
  refine y_iload_n d_G_mostByTable_13 rfl ?_
  refine y_iconst (v := (J 1)) d_G_mostByTable_14 rfl ?_
  refine y_aload_n d_G_mostByTable_15 rfl ?_
  refine y_getI d_G_mostByTable_16 f_G_22 (fun v5 => ?_)
  refine y_ishl (v := ((J 1) <<< (v5 &&& 31))) d_G_mostByTable_19 rfl ?_
  refine y_icmp_ge (tgt := 47) d_G_mostByTable_20 (by decide) ?_ ?_
  · exact y_wk (loc2 := [none, none, some (.int v2_), none]) ⟨rfl, trivial⟩ (hK47 h v2_)
  · refine y_aload_n d_G_mostByTable_23 rfl ?_
    refine y_getA d_G_mostByTable_24 f_G_28 (fun v6 => ?_)
    refine y_iload_n d_G_mostByTable_27 rfl ?_
    refine y_zald d_G_mostByTable_28 (fun v7 => ?_)
    refine y_jn (C := fun (j9 : mH → Int32 → Option (Int32 × mH)) => ∀ (h9 : mH) (u10 : Int32), mY l Θ d M_G_mostByTable 41 [some (.ref f0_), none, some (.int u10), some (.int v3_)] [] h9 (tR vI) (j9 h9 u10)) (fun h9 u10 => ?_) (fun j8 Hj8 => ?_)
    · refine y_iinc (v := (v3_ + (J 1))) (loc2 := [some (.ref f0_), none, some (.int u10), some (.int (v3_ + (J 1)))]) d_G_mostByTable_41 rfl rfl (Nat.le_of_ble_eq_true rfl) rfl rfl ?_
      refine y_goto (tgt := 13) d_G_mostByTable_44 (by decide) ?_
      exact ih h9 u10 (v3_ + (J 1))
    · refine y_if_eq (tgt := 41) d_G_mostByTable_29 (by decide) ?_ ?_
      · exact Hj8 h v2_
      · refine y_iload_n d_G_mostByTable_32 rfl ?_
        refine y_iload_n d_G_mostByTable_33 rfl ?_
        refine y_cI (c_st (rest := [.int v2_]) d_G_mostByTable_34 k_IN_bitCount s_G_43 rfl rfl (Nat.le_of_ble_eq_true rfl) (Nat.le_trans (Nat.le_of_ble_eq_true rfl : 1 + 1 ≤ 4) hD) (S_IN_bitCount hfl (Nat.le_refl _) h v3_)) (fun v12 h11 => ?_)
        refine y_mmax d_G_mostByTable_37 s_G_49.1 s_G_49.2 k_MA_max.2.2.2.2.2 (mG (3, 185) (by decide +kernel)) (Nat.le_of_ble_eq_true rfl) (Nat.le_trans (Nat.le_of_ble_eq_true rfl) hD) ?_
        refine y_istore_n (loc2 := [some (.ref f0_), none, some (.int (mxI v2_ v12)), some (.int v3_)]) d_G_mostByTable_40 (Nat.le_of_ble_eq_true rfl) rfl rfl ?_
        exact Hj8 h11 (mxI v2_ v12)
theorem S_G_mostByTable_13 (hfl : HF l Θ) (hD : 4 ≤ d) {K47 : mH → Int32 → Option (Int32 × mH)} {f0_ : Nat}  (hK47 : ∀ (h : mH) (v2_ : Int32), mY l Θ d M_G_mostByTable 47 [none, none, some (.int v2_), none] [] h (tR vI) (K47 h v2_)) : ∀ (n : Nat) (h : mH) (v2_ : Int32) (v3_ : Int32), mY l Θ d M_G_mostByTable 13 [some (.ref f0_), none, some (.int v2_), some (.int v3_)] [] h (tR vI) (P_G_mostByTable_13 Θ N K47 f0_ n h v2_ v3_) :=
  fun n => lp_all (C := fun (rc : mH → Int32 → Int32 → Option (Int32 × mH)) => ∀ (h : mH) (v2_ : Int32) (v3_ : Int32), mY l Θ d M_G_mostByTable 13 [some (.ref f0_), none, some (.int v2_), some (.int v3_)] [] h (tR vI) (rc h v2_ v3_)) (fun _ _ _ => y_none) (fun rc ih => SB_G_mostByTable_13 hfl hD hK47 rc ih) n
theorem S_G_mostByTable (hfl : HF l Θ) (hD : 4 ≤ d) (h : mH) (a0 : Nat) (a1 : Nat) : mMs l Θ d M_G_mostByTable [.ref a0, .ref a1] h (tR vI) (P_G_mostByTable Θ N h a0 a1) := by
  refine mMs.of hfl (by decide +kernel) rfl (Nat.le_of_ble_eq_true rfl) (loc := [some (.ref a0), some (.ref a1), none, none]) rfl ?_
  unfold P_G_mostByTable
  refine y_aload_n d_G_mostByTable_0 rfl ?_
  refine y_aload_n d_G_mostByTable_1 rfl ?_
  refine y_gO (fun fs1 g1 => y_cU (c_vi (rest := []) d_G_mostByTable_2 k_G_survey s_G_32 (Or.inl ⟨_, _, _, g1, rfl, rfl⟩) rfl rfl (Nat.le_of_ble_eq_true rfl) (Nat.le_trans (Nat.le_of_ble_eq_true rfl : 3 + 1 ≤ 4) hD) (S_G_survey hfl (Nat.le_refl _) h a0 a1)) (fun v2 h1 => ?_))
  refine y_aload_n d_G_mostByTable_5 rfl ?_
  refine y_gO (fun fs1 g1 => y_cU (c_vi (rest := []) d_G_mostByTable_6 k_G_fillTable s_G_40 (Or.inl ⟨_, _, _, g1, rfl, rfl⟩) rfl rfl (Nat.le_of_ble_eq_true rfl) (Nat.le_trans (Nat.le_of_ble_eq_true rfl : 3 + 1 ≤ 4) hD) (S_G_fillTable hfl (Nat.le_refl _) h1 a0)) (fun v4 h3 => ?_))
  refine y_iconst (v := (J 0)) d_G_mostByTable_9 rfl ?_
  refine y_istore_n (loc2 := [some (.ref a0), some (.ref a1), some (.int (J 0)), none]) d_G_mostByTable_10 (Nat.le_of_ble_eq_true rfl) rfl rfl ?_
  refine y_iconst (v := (J 0)) d_G_mostByTable_11 rfl ?_
  refine y_istore_n (loc2 := [some (.ref a0), some (.ref a1), some (.int (J 0)), some (.int (J 0))]) d_G_mostByTable_12 (Nat.le_of_ble_eq_true rfl) rfl rfl ?_
  refine y_wk (loc2 := [some (.ref a0), none, some (.int (J 0)), some (.int (J 0))]) ⟨rfl, ⟨rfl, ⟨rfl, trivial⟩⟩⟩ ?_
  refine S_G_mostByTable_13 hfl hD (fun h13 u14 => ?_) N h3 (J 0) (J 0)
  refine y_iload_n d_G_mostByTable_47 rfl ?_
  exact y_retI d_G_mostByTable_48 rfl rfl
noncomputable def B_G_mostMetres_13 (Θ : mW) (N : Nat) (K49 : mH → Int32 → Option (Int32 × mH)) (f0_ : Nat) (rc : mH → Int32 → Int32 → Option (Int32 × mH)) (h : mH) (v2_ : Int32) (v3_ : Int32) : Option (Int32 × mH) :=
  (bo (rI Θ h 6 f0_ 3) (fun v5 => (if ((J 1) <<< (v5 &&& 31)) ≤ v3_ then (K49 h v2_) else (bo (rA Θ h 6 f0_ 5) (fun v6 => (bo (aR Θ h 1 v6 v3_) (fun v7 => (jn (fun (h9 : mH) (u10 : Int32) => (rc h9 u10 (v3_ + (J 1)))) (fun j8 => (if v7 = 0 then (j8 h v2_) else (bo (rA Θ h 6 f0_ 4) (fun v11 => (bo (aR Θ h 0 v11 v3_) (fun v12 => (j8 h (mxI v2_ v12))))))))))))))))
noncomputable def P_G_mostMetres_13 (Θ : mW) (N : Nat) (K49 : mH → Int32 → Option (Int32 × mH)) (f0_ : Nat) : Nat → mH → Int32 → Int32 → Option (Int32 × mH) :=
  lp (fun _ _ _ => none) (B_G_mostMetres_13 Θ N K49 f0_)
noncomputable def P_G_mostMetres (Θ : mW) (N : Nat) (h : mH) (a0 : Nat) (a1 : Nat) : Option (Int32 × mH) :=
  (gO Θ h 6 a0 (bc (P_G_survey Θ N h a0 a1) (fun v2 h1 => (gO Θ h1 6 a0 (bc (P_G_fillTable Θ N h1 a0) (fun v4 h3 => (P_G_mostMetres_13 Θ N (fun h13 u14 => (some (u14, h13))) a0 N h3 (J 0) (J 0))))))))
theorem SB_G_mostMetres_13 (hfl : HF l Θ) (hD : 4 ≤ d) {K49 : mH → Int32 → Option (Int32 × mH)} {f0_ : Nat}  (hK49 : ∀ (h : mH) (v2_ : Int32), mY l Θ d M_G_mostMetres 49 [none, none, some (.int v2_), none] [] h (tR vI) (K49 h v2_)) (rc : mH → Int32 → Int32 → Option (Int32 × mH)) (ih : ∀ (h : mH) (v2_ : Int32) (v3_ : Int32), mY l Θ d M_G_mostMetres 13 [some (.ref f0_), none, some (.int v2_), some (.int v3_)] [] h (tR vI) (rc h v2_ v3_)) : ∀ (h : mH) (v2_ : Int32) (v3_ : Int32), mY l Θ d M_G_mostMetres 13 [some (.ref f0_), none, some (.int v2_), some (.int v3_)] [] h (tR vI) (B_G_mostMetres_13 Θ N K49 f0_ rc h v2_ v3_) := by
  intro h v2_ v3_
  unfold B_G_mostMetres_13
  refine y_iload_n d_G_mostMetres_13 rfl ?_
  refine y_iconst (v := (J 1)) d_G_mostMetres_14 rfl ?_
  refine y_aload_n d_G_mostMetres_15 rfl ?_
  refine y_getI d_G_mostMetres_16 f_G_22 (fun v5 => ?_)
  refine y_ishl (v := ((J 1) <<< (v5 &&& 31))) d_G_mostMetres_19 rfl ?_
  refine y_icmp_ge (tgt := 49) d_G_mostMetres_20 (by decide) ?_ ?_
  · exact y_wk (loc2 := [none, none, some (.int v2_), none]) ⟨rfl, trivial⟩ (hK49 h v2_)
  · refine y_aload_n d_G_mostMetres_23 rfl ?_
    refine y_getA d_G_mostMetres_24 f_G_28 (fun v6 => ?_)
    refine y_iload_n d_G_mostMetres_27 rfl ?_
    refine y_zald d_G_mostMetres_28 (fun v7 => ?_)
    refine y_jn (C := fun (j9 : mH → Int32 → Option (Int32 × mH)) => ∀ (h9 : mH) (u10 : Int32), mY l Θ d M_G_mostMetres 43 [some (.ref f0_), none, some (.int u10), some (.int v3_)] [] h9 (tR vI) (j9 h9 u10)) (fun h9 u10 => ?_) (fun j8 Hj8 => ?_)
    · refine y_iinc (v := (v3_ + (J 1))) (loc2 := [some (.ref f0_), none, some (.int u10), some (.int (v3_ + (J 1)))]) d_G_mostMetres_43 rfl rfl (Nat.le_of_ble_eq_true rfl) rfl rfl ?_
      refine y_goto (tgt := 13) d_G_mostMetres_46 (by decide) ?_
      exact ih h9 u10 (v3_ + (J 1))
    · refine y_if_eq (tgt := 43) d_G_mostMetres_29 (by decide) ?_ ?_
      · exact Hj8 h v2_
      · refine y_iload_n d_G_mostMetres_32 rfl ?_
        refine y_aload_n d_G_mostMetres_33 rfl ?_
        refine y_getA d_G_mostMetres_34 f_G_25 (fun v11 => ?_)
        refine y_iload_n d_G_mostMetres_37 rfl ?_
        refine y_iald d_G_mostMetres_38 (fun v12 => ?_)
        refine y_mmax d_G_mostMetres_39 s_G_49.1 s_G_49.2 k_MA_max.2.2.2.2.2 (mG (3, 185) (by decide +kernel)) (Nat.le_of_ble_eq_true rfl) (Nat.le_trans (Nat.le_of_ble_eq_true rfl) hD) ?_
        refine y_istore_n (loc2 := [some (.ref f0_), none, some (.int (mxI v2_ v12)), some (.int v3_)]) d_G_mostMetres_42 (Nat.le_of_ble_eq_true rfl) rfl rfl ?_
        exact Hj8 h (mxI v2_ v12)
theorem S_G_mostMetres_13 (hfl : HF l Θ) (hD : 4 ≤ d) {K49 : mH → Int32 → Option (Int32 × mH)} {f0_ : Nat}  (hK49 : ∀ (h : mH) (v2_ : Int32), mY l Θ d M_G_mostMetres 49 [none, none, some (.int v2_), none] [] h (tR vI) (K49 h v2_)) : ∀ (n : Nat) (h : mH) (v2_ : Int32) (v3_ : Int32), mY l Θ d M_G_mostMetres 13 [some (.ref f0_), none, some (.int v2_), some (.int v3_)] [] h (tR vI) (P_G_mostMetres_13 Θ N K49 f0_ n h v2_ v3_) :=
  fun n => lp_all (C := fun (rc : mH → Int32 → Int32 → Option (Int32 × mH)) => ∀ (h : mH) (v2_ : Int32) (v3_ : Int32), mY l Θ d M_G_mostMetres 13 [some (.ref f0_), none, some (.int v2_), some (.int v3_)] [] h (tR vI) (rc h v2_ v3_)) (fun _ _ _ => y_none) (fun rc ih => SB_G_mostMetres_13 hfl hD hK49 rc ih) n
theorem S_G_mostMetres (hfl : HF l Θ) (hD : 4 ≤ d) (h : mH) (a0 : Nat) (a1 : Nat) : mMs l Θ d M_G_mostMetres [.ref a0, .ref a1] h (tR vI) (P_G_mostMetres Θ N h a0 a1) := by
  refine mMs.of hfl (by decide +kernel) rfl (Nat.le_of_ble_eq_true rfl) (loc := [some (.ref a0), some (.ref a1), none, none]) rfl ?_
  unfold P_G_mostMetres
  refine y_aload_n d_G_mostMetres_0 rfl ?_
  refine y_aload_n d_G_mostMetres_1 rfl ?_
  refine y_gO (fun fs1 g1 => y_cU (c_vi (rest := []) d_G_mostMetres_2 k_G_survey s_G_32 (Or.inl ⟨_, _, _, g1, rfl, rfl⟩) rfl rfl (Nat.le_of_ble_eq_true rfl) (Nat.le_trans (Nat.le_of_ble_eq_true rfl : 3 + 1 ≤ 4) hD) (S_G_survey hfl (Nat.le_refl _) h a0 a1)) (fun v2 h1 => ?_))
  refine y_aload_n d_G_mostMetres_5 rfl ?_
  refine y_gO (fun fs1 g1 => y_cU (c_vi (rest := []) d_G_mostMetres_6 k_G_fillTable s_G_40 (Or.inl ⟨_, _, _, g1, rfl, rfl⟩) rfl rfl (Nat.le_of_ble_eq_true rfl) (Nat.le_trans (Nat.le_of_ble_eq_true rfl : 3 + 1 ≤ 4) hD) (S_G_fillTable hfl (Nat.le_refl _) h1 a0)) (fun v4 h3 => ?_))
  refine y_iconst (v := (J 0)) d_G_mostMetres_9 rfl ?_
  refine y_istore_n (loc2 := [some (.ref a0), some (.ref a1), some (.int (J 0)), none]) d_G_mostMetres_10 (Nat.le_of_ble_eq_true rfl) rfl rfl ?_
  refine y_iconst (v := (J 0)) d_G_mostMetres_11 rfl ?_
  refine y_istore_n (loc2 := [some (.ref a0), some (.ref a1), some (.int (J 0)), some (.int (J 0))]) d_G_mostMetres_12 (Nat.le_of_ble_eq_true rfl) rfl rfl ?_
  refine y_wk (loc2 := [some (.ref a0), none, some (.int (J 0)), some (.int (J 0))]) ⟨rfl, ⟨rfl, ⟨rfl, trivial⟩⟩⟩ ?_
  refine S_G_mostMetres_13 hfl hD (fun h13 u14 => ?_) N h3 (J 0) (J 0)
  refine y_iload_n d_G_mostMetres_49 rfl ?_
  exact y_retI d_G_mostMetres_50 rfl rfl
noncomputable def B_H_init_25 (Θ : mW) (N : Nat) (K53 : mH → Option (Unit × mH)) (f0_ : Nat) (rc : mH → Int32 → Option (Unit × mH)) (h : mH) (v1_ : Int32) : Option (Unit × mH) :=
  (bo (rA Θ h 5 f0_ 0) (fun v6 => (bo (aN Θ h v6) (fun v7 => (if v7 ≤ v1_ then (K53 h) else (bo (rA Θ h 5 f0_ 0) (fun v8 => (al Θ h (oB 1 [.null, .null, .int 0, .int 0, .int 0, .int 0, .int 0, .int 0]) (fun q9 h10 => (bc (P_D_init Θ N h10 q9) (fun v12 h11 => (bo (aWQ Θ h11 6 1 v8 v1_ q9) (fun h13 => (rc h13 (v1_ + (J 1))))))))))))))))
noncomputable def P_H_init_25 (Θ : mW) (N : Nat) (K53 : mH → Option (Unit × mH)) (f0_ : Nat) : Nat → mH → Int32 → Option (Unit × mH) :=
  lp (fun _ _ => none) (B_H_init_25 Θ N K53 f0_)
noncomputable def P_H_init (Θ : mW) (N : Nat) (h : mH) (a0 : Nat) : Option (Unit × mH) :=
  (ala Θ h 4 (J 8) (fun n => aQ 6 n (fun _ => none)) (fun q1 h2 => (bo (wF Θ h2 5 a0 0 (.ref q1)) (fun h3 => (bo (wF Θ h3 5 a0 1 (.int (J 0))) (fun h4 => (bo (wF Θ h4 5 a0 2 (.int (J 0))) (fun h5 => (P_H_init_25 Θ N (fun h14 => (some ((), h14))) a0 N h5 (J 0))))))))))
theorem SB_H_init_25 (hfl : HF l Θ) (hD : 4 ≤ d) {K53 : mH → Option (Unit × mH)} {f0_ : Nat}  (hK53 : ∀ (h : mH), mY l Θ d M_H_init 53 [none, none] [] h (tR vU) (K53 h)) (rc : mH → Int32 → Option (Unit × mH)) (ih : ∀ (h : mH) (v1_ : Int32), mY l Θ d M_H_init 25 [some (.ref f0_), some (.int v1_)] [] h (tR vU) (rc h v1_)) : ∀ (h : mH) (v1_ : Int32), mY l Θ d M_H_init 25 [some (.ref f0_), some (.int v1_)] [] h (tR vU) (B_H_init_25 Θ N K53 f0_ rc h v1_) := by
  intro h v1_
  unfold B_H_init_25
  refine y_iload_n d_H_init_25 rfl ?_
  refine y_aload_n d_H_init_26 rfl ?_
  refine y_getA d_H_init_27 f_H_11 (fun v6 => ?_)
  refine y_alen d_H_init_30 (fun v7 => ?_)
  refine y_icmp_ge (tgt := 53) d_H_init_31 (by decide) ?_ ?_
  · exact y_wk (loc2 := [none, none]) trivial (hK53 h)
  · refine y_aload_n d_H_init_34 rfl ?_
    refine y_getA d_H_init_35 f_H_11 (fun v8 => ?_)
    refine y_iload_n d_H_init_38 rfl ?_
    refine y_new d_H_init_39 n_H_9 (fun q9 h10 _ _ => ?_)
    refine y_dup d_H_init_42 rfl ?_
    refine y_cU (c_in (rest := [.ref q9, .int v1_, .ref v8]) d_H_init_43 k_D_init s_H_22 rfl rfl (Nat.le_of_ble_eq_true rfl) (Nat.le_trans (Nat.le_of_ble_eq_true rfl : 3 + 1 ≤ 4) hD) (S_D_init hfl (Nat.le_refl _) h10 q9)) (fun v12 h11 => ?_)
    refine y_qast (Or.inr ⟨rfl, rfl⟩) d_H_init_46 (fun h13 => ?_)
    refine y_iinc (v := (v1_ + (J 1))) (loc2 := [some (.ref f0_), some (.int (v1_ + (J 1)))]) d_H_init_47 rfl rfl (Nat.le_of_ble_eq_true rfl) rfl rfl ?_
    refine y_goto (tgt := 25) d_H_init_50 (by decide) ?_
    exact ih h13 (v1_ + (J 1))
theorem S_H_init_25 (hfl : HF l Θ) (hD : 4 ≤ d) {K53 : mH → Option (Unit × mH)} {f0_ : Nat}  (hK53 : ∀ (h : mH), mY l Θ d M_H_init 53 [none, none] [] h (tR vU) (K53 h)) : ∀ (n : Nat) (h : mH) (v1_ : Int32), mY l Θ d M_H_init 25 [some (.ref f0_), some (.int v1_)] [] h (tR vU) (P_H_init_25 Θ N K53 f0_ n h v1_) :=
  fun n => lp_all (C := fun (rc : mH → Int32 → Option (Unit × mH)) => ∀ (h : mH) (v1_ : Int32), mY l Θ d M_H_init 25 [some (.ref f0_), some (.int v1_)] [] h (tR vU) (rc h v1_)) (fun _ _ => y_none) (fun rc ih => SB_H_init_25 hfl hD hK53 rc ih) n
theorem S_H_init (hfl : HF l Θ) (hD : 4 ≤ d) (h : mH) (a0 : Nat) : mMs l Θ d M_H_init [.ref a0] h (tR vU) (P_H_init Θ N h a0) := by
  refine mMs.of hfl (by decide +kernel) rfl (Nat.le_of_ble_eq_true rfl) (loc := [some (.ref a0), none]) rfl ?_
  unfold P_H_init
  refine y_aload_n d_H_init_0 rfl ?_
  refine y_objInit d_H_init_1 s_H_1 (mG (1, 42) (by decide +kernel)) (mG (1, 43) (by decide +kernel)) (Nat.le_of_ble_eq_true rfl) (Nat.le_trans (Nat.le_of_ble_eq_true rfl) hD) ?_
  refine y_aload_n d_H_init_4 rfl ?_
  refine y_bipush (v := (J 8)) d_H_init_5 (by decide +kernel) ?_
  refine y_anewarr d_H_init_7 (fun _ => rfl) y_H_9 (by simp [mAo]) (fun q1 h2 => ?_)
  refine y_putF d_H_init_10 rfl pf_H_11 rfl rfl (fun h3 => ?_)
  refine y_aload_n d_H_init_13 rfl ?_
  refine y_iconst (v := (J 0)) d_H_init_14 rfl ?_
  refine y_put d_H_init_15 p_H_15 rfl rfl (fun h4 => ?_)
  refine y_aload_n d_H_init_18 rfl ?_
  refine y_iconst (v := (J 0)) d_H_init_19 rfl ?_
  refine y_put d_H_init_20 p_H_19 rfl rfl (fun h5 => ?_)
  refine y_iconst (v := (J 0)) d_H_init_23 rfl ?_
  refine y_istore_n (loc2 := [some (.ref a0), some (.int (J 0))]) d_H_init_24 (Nat.le_of_ble_eq_true rfl) rfl rfl ?_
  refine S_H_init_25 hfl hD (fun h14 => ?_) N h5 (J 0)
  exact y_retU d_H_init_53 rfl
noncomputable def P_H_push (Θ : mW) (N : Nat) (h : mH) (a0 : Nat) (a1 : Nat) : Option (Nat × mH) :=
  (bo (rA Θ h 5 a0 0) (fun v1 => (bo (rI Θ h 5 a0 1) (fun v2 => (bo (aRQ Θ h 6 v1 v2) (fun v3 => (bo (rA Θ h 5 a0 0) (fun v4 => (bo (rI Θ h 5 a0 1) (fun v5 => (bo (aWQ Θ h 6 1 v4 v5 a1) (fun h6 => (bo (rI Θ h6 5 a0 1) (fun v7 => (bo (wF Θ h6 5 a0 1 (.int ((v7 + (J 1)) - (v7 + (J 1)) / (J 8) * (J 8)))) (fun h8 => (bo (rI Θ h8 5 a0 2) (fun v9 => (bo (wF Θ h8 5 a0 2 (.int (mnI (J 8) (v9 + (J 1))))) (fun h10 => (some (v3, h10))))))))))))))))))))))
theorem S_H_push (hfl : HF l Θ) (hD : 1 ≤ d) (h : mH) (a0 : Nat) (a1 : Nat) : mMs l Θ d M_H_push [.ref a0, .ref a1] h (tR vA) (P_H_push Θ N h a0 a1) := by
  refine mMs.of hfl (by decide +kernel) rfl (Nat.le_of_ble_eq_true rfl) (loc := [some (.ref a0), some (.ref a1), none]) rfl ?_
  unfold P_H_push
  refine y_aload_n d_H_push_0 rfl ?_
  refine y_getA d_H_push_1 f_H_11 (fun v1 => ?_)
  refine y_aload_n d_H_push_4 rfl ?_
  refine y_getI d_H_push_5 f_H_15 (fun v2 => ?_)
  refine y_qald (Or.inr rfl) d_H_push_8 (fun v3 => ?_)
  refine y_astore_n (loc2 := [some (.ref a0), some (.ref a1), some (.ref v3)]) d_H_push_9 (Nat.le_of_ble_eq_true rfl) rfl rfl ?_
  refine y_aload_n d_H_push_10 rfl ?_
  refine y_getA d_H_push_11 f_H_11 (fun v4 => ?_)
  refine y_aload_n d_H_push_14 rfl ?_
  refine y_getI d_H_push_15 f_H_15 (fun v5 => ?_)
  refine y_aload_n d_H_push_18 rfl ?_
  refine y_qast (Or.inr ⟨rfl, rfl⟩) d_H_push_19 (fun h6 => ?_)
  refine y_aload_n d_H_push_20 rfl ?_
  refine y_aload_n d_H_push_21 rfl ?_
  refine y_getI d_H_push_22 f_H_15 (fun v7 => ?_)
  refine y_iconst (v := (J 1)) d_H_push_25 rfl ?_
  refine y_iadd (v := (v7 + (J 1))) d_H_push_26 rfl ?_
  refine y_bipush (v := (J 8)) d_H_push_27 (by decide +kernel) ?_
  refine y_irem (v := ((v7 + (J 1)) - (v7 + (J 1)) / (J 8) * (J 8))) d_H_push_29 (by decide +kernel) rfl ?_
  refine y_put d_H_push_30 p_H_15 rfl rfl (fun h8 => ?_)
  refine y_aload_n d_H_push_33 rfl ?_
  refine y_bipush (v := (J 8)) d_H_push_34 (by decide +kernel) ?_
  refine y_aload_n d_H_push_36 rfl ?_
  refine y_getI d_H_push_37 f_H_19 (fun v9 => ?_)
  refine y_iconst (v := (J 1)) d_H_push_40 rfl ?_
  refine y_iadd (v := (v9 + (J 1))) d_H_push_41 rfl ?_
  refine y_mmin d_H_push_42 s_H_23.1 s_H_23.2 k_MA_min.2.2.2.2.2 (mG (2, 239) (by decide +kernel)) (Nat.le_of_ble_eq_true rfl) (Nat.le_trans (Nat.le_of_ble_eq_true rfl) hD) ?_
  refine y_put d_H_push_45 p_H_19 rfl rfl (fun h10 => ?_)
  refine y_aload_n d_H_push_48 rfl ?_
  exact y_retA d_H_push_49 rfl (Or.inl ⟨_, rfl⟩)
noncomputable def P_H_forget (Θ : mW) (N : Nat) (h : mH) (a0 : Nat) : Option (Unit × mH) :=
  (bo (wF Θ h 5 a0 2 (.int (J 0))) (fun h1 => (some ((), h1))))
theorem S_H_forget (hfl : HF l Θ) (hD : 1 ≤ d) (h : mH) (a0 : Nat) : mMs l Θ d M_H_forget [.ref a0] h (tR vU) (P_H_forget Θ N h a0) := by
  refine mMs.of hfl (by decide +kernel) rfl (Nat.le_of_ble_eq_true rfl) (loc := [some (.ref a0)]) rfl ?_
  unfold P_H_forget
  refine y_aload_n d_H_forget_0 rfl ?_
  refine y_iconst (v := (J 0)) d_H_forget_1 rfl ?_
  refine y_put d_H_forget_2 p_H_19 rfl rfl (fun h1 => ?_)
  exact y_retU d_H_forget_5 rfl
noncomputable def P_T_init (Θ : mW) (N : Nat) (h : mH) (a0 : Nat) : Option (Unit × mH) :=
  (al Θ h (oB 8 [.null, .int 0, .int 0, .int 0]) (fun q1 h2 => (bc (P_SB_init Θ N h2 q1) (fun v4 h3 => (bo (wF Θ h3 7 a0 0 (.ref q1)) (fun h5 => (bo (wF Θ h5 7 a0 1 (.int (J 0))) (fun h6 => (bo (wF Θ h6 7 a0 2 (.int (J 0))) (fun h7 => (bo (wF Θ h7 7 a0 3 (.int (J 0))) (fun h8 => (bo (wF Θ h8 7 a0 4 (.ref (mwad Θ 5))) (fun h9 => (ala Θ h9 4 (J 3) (fun n => .inl (0, n, .inl (fun _ => 0))) (fun q10 h11 => (bo (wF Θ h11 7 a0 5 (.ref q10)) (fun h12 => (bo (wF Θ h12 7 a0 6 (.int (J 0))) (fun h13 => (some ((), h13))))))))))))))))))))))
theorem S_T_init (hfl : HF l Θ) (hD : 3 ≤ d) (h : mH) (a0 : Nat) : mMs l Θ d M_T_init [.ref a0] h (tR vU) (P_T_init Θ N h a0) := by
  refine mMs.of hfl (by decide +kernel) rfl (Nat.le_of_ble_eq_true rfl) (loc := [some (.ref a0)]) rfl ?_
  unfold P_T_init
  refine y_aload_n d_T_init_0 rfl ?_
  refine y_objInit d_T_init_1 s_T_1 (mG (1, 42) (by decide +kernel)) (mG (1, 43) (by decide +kernel)) (Nat.le_of_ble_eq_true rfl) (Nat.le_trans (Nat.le_of_ble_eq_true rfl) hD) ?_
  refine y_aload_n d_T_init_4 rfl ?_
  refine y_new d_T_init_5 n_T_7 (fun q1 h2 _ _ => ?_)
  refine y_dup d_T_init_8 rfl ?_
  refine y_cU (c_in (rest := [.ref q1, .ref a0]) d_T_init_9 k_SB_init s_T_9 rfl rfl (Nat.le_of_ble_eq_true rfl) (Nat.le_trans (Nat.le_of_ble_eq_true rfl : 2 + 1 ≤ 3) hD) (S_SB_init hfl (Nat.le_refl _) h2 q1)) (fun v4 h3 => ?_)
  refine y_putF d_T_init_12 rfl pf_T_10 rfl rfl (fun h5 => ?_)
  refine y_aload_n d_T_init_15 rfl ?_
  refine y_iconst (v := (J 0)) d_T_init_16 rfl ?_
  refine y_put d_T_init_17 p_T_16 rfl rfl (fun h6 => ?_)
  refine y_aload_n d_T_init_20 rfl ?_
  refine y_iconst (v := (J 0)) d_T_init_21 rfl ?_
  refine y_put d_T_init_22 p_T_20 rfl rfl (fun h7 => ?_)
  refine y_aload_n d_T_init_25 rfl ?_
  refine y_iconst (v := (J 0)) d_T_init_26 rfl ?_
  refine y_put d_T_init_27 p_T_23 rfl rfl (fun h8 => ?_)
  refine y_aload_n d_T_init_30 rfl ?_
  refine y_getstatic d_T_init_31 t_T_26 (List.mem_of_getElem? (i := 1) rfl) ?_
  refine y_put d_T_init_34 p_T_32 rfl rfl (fun h9 => ?_)
  refine y_aload_n d_T_init_37 rfl ?_
  refine y_iconst (v := (J 3)) d_T_init_38 rfl ?_
  refine y_newarr (ty := .int) (a0 := fun n => (n, .inl (fun _ => 0))) d_T_init_39 rfl (fun _ => rfl) (mG (1, 144) (by decide +kernel)) (fun _ _ => rfl) (fun _ => rfl) rfl (fun q10 h11 => ?_)
  refine y_putF d_T_init_41 rfl pf_T_35 rfl rfl (fun h12 => ?_)
  refine y_aload_n d_T_init_44 rfl ?_
  refine y_iconst (v := (J 0)) d_T_init_45 rfl ?_
  refine y_put d_T_init_46 p_T_39 rfl rfl (fun h13 => ?_)
  exact y_retU d_T_init_49 rfl
noncomputable def P_F_init (Θ : mW) (N : Nat) (h : mH) (a0 : Nat) : Option (Unit × mH) :=
  (al Θ h (oB 1 [.null, .null, .int 0, .int 0, .int 0, .int 0, .int 0, .int 0]) (fun q1 h2 => (bc (P_D_init Θ N h2 q1) (fun v4 h3 => (bo (wF Θ h3 0 a0 0 (.ref q1)) (fun h5 => (al Θ h5 (oB 1 [.null, .null, .int 0, .int 0, .int 0, .int 0, .int 0, .int 0]) (fun q6 h7 => (bc (P_D_init Θ N h7 q6) (fun v9 h8 => (bo (wF Θ h8 0 a0 1 (.ref q6)) (fun h10 => (al Θ h10 (oB 5 [.null, .int 0, .int 0]) (fun q11 h12 => (bc (P_H_init Θ N h12 q11) (fun v14 h13 => (bo (wF Θ h13 0 a0 2 (.ref q11)) (fun h15 => (al Θ h15 (oB 1 [.null, .null, .int 0, .int 0, .int 0, .int 0, .int 0, .int 0]) (fun q16 h17 => (bc (P_D_init Θ N h17 q16) (fun v19 h18 => (bo (wF Θ h18 0 a0 3 (.ref q16)) (fun h20 => (bo (wF Θ h20 0 a0 4 (.int (J 0))) (fun h21 => (al Θ h21 (oB 6 [.null, .int 0, .null, .int 0, .null, .null]) (fun q22 h23 => (bc (P_G_init Θ N h23 q22) (fun v25 h24 => (bo (wF Θ h24 0 a0 5 (.ref q22)) (fun h26 => (al Θ h26 (oB 7 [.null, .int 0, .int 0, .int 0, .null, .null, .int 0]) (fun q27 h28 => (bc (P_T_init Θ N h28 q27) (fun v30 h29 => (bo (wF Θ h29 0 a0 6 (.ref q27)) (fun h31 => (al Θ h31 (oB 8 [.null, .int 0, .int 0, .int 0]) (fun q32 h33 => (bc (P_SB_init Θ N h33 q32) (fun v35 h34 => (bo (wF Θ h34 0 a0 7 (.ref q32)) (fun h36 => (bo (wF Θ h36 0 a0 8 (.int (J (-1)))) (fun h37 => (bo (wF Θ h37 0 a0 9 (.int (J (-1)))) (fun h38 => (bo (wF Θ h38 0 a0 10 (.int (J (-1)))) (fun h39 => (some ((), h39))))))))))))))))))))))))))))))))))))))))))))))))))))
theorem S_F_init (hfl : HF l Θ) (hD : 5 ≤ d) (h : mH) (a0 : Nat) : mMs l Θ d M_F_init [.ref a0] h (tR vU) (P_F_init Θ N h a0) := by
  refine mMs.of hfl (by decide +kernel) rfl (Nat.le_of_ble_eq_true rfl) (loc := [some (.ref a0)]) rfl ?_
  unfold P_F_init
  refine y_aload_n d_F_init_0 rfl ?_
  refine y_objInit d_F_init_1 s_F_1 (mG (1, 42) (by decide +kernel)) (mG (1, 43) (by decide +kernel)) (Nat.le_of_ble_eq_true rfl) (Nat.le_trans (Nat.le_of_ble_eq_true rfl) hD) ?_
  refine y_aload_n d_F_init_4 rfl ?_
  refine y_new d_F_init_5 n_F_7 (fun q1 h2 _ _ => ?_)
  refine y_dup d_F_init_8 rfl ?_
  refine y_cU (c_in (rest := [.ref q1, .ref a0]) d_F_init_9 k_D_init s_F_9 rfl rfl (Nat.le_of_ble_eq_true rfl) (Nat.le_trans (Nat.le_of_ble_eq_true rfl : 3 + 1 ≤ 5) hD) (S_D_init hfl (Nat.le_refl _) h2 q1)) (fun v4 h3 => ?_)
  refine y_put d_F_init_12 p_F_10 rfl rfl (fun h5 => ?_)
  refine y_aload_n d_F_init_15 rfl ?_
  refine y_new d_F_init_16 n_F_7 (fun q6 h7 _ _ => ?_)
  refine y_dup d_F_init_19 rfl ?_
  refine y_cU (c_in (rest := [.ref q6, .ref a0]) d_F_init_20 k_D_init s_F_9 rfl rfl (Nat.le_of_ble_eq_true rfl) (Nat.le_trans (Nat.le_of_ble_eq_true rfl : 3 + 1 ≤ 5) hD) (S_D_init hfl (Nat.le_refl _) h7 q6)) (fun v9 h8 => ?_)
  refine y_put d_F_init_23 p_F_16 rfl rfl (fun h10 => ?_)
  refine y_aload_n d_F_init_26 rfl ?_
  refine y_new d_F_init_27 n_F_19 (fun q11 h12 _ _ => ?_)
  refine y_dup d_F_init_30 rfl ?_
  refine y_cU (c_in (rest := [.ref q11, .ref a0]) d_F_init_31 k_H_init s_F_21 rfl rfl (Nat.le_of_ble_eq_true rfl) (Nat.le_trans (Nat.le_of_ble_eq_true rfl : 4 + 1 ≤ 5) hD) (S_H_init hfl (Nat.le_refl _) h12 q11)) (fun v14 h13 => ?_)
  refine y_putF d_F_init_34 rfl pf_F_22 rfl rfl (fun h15 => ?_)
  refine y_aload_n d_F_init_37 rfl ?_
  refine y_new d_F_init_38 n_F_7 (fun q16 h17 _ _ => ?_)
  refine y_dup d_F_init_41 rfl ?_
  refine y_cU (c_in (rest := [.ref q16, .ref a0]) d_F_init_42 k_D_init s_F_9 rfl rfl (Nat.le_of_ble_eq_true rfl) (Nat.le_trans (Nat.le_of_ble_eq_true rfl : 3 + 1 ≤ 5) hD) (S_D_init hfl (Nat.le_refl _) h17 q16)) (fun v19 h18 => ?_)
  refine y_putF d_F_init_45 rfl pf_F_26 rfl rfl (fun h20 => ?_)
  refine y_aload_n d_F_init_48 rfl ?_
  refine y_iconst (v := (J 0)) d_F_init_49 rfl ?_
  refine y_put d_F_init_50 p_F_29 rfl rfl (fun h21 => ?_)
  refine y_aload_n d_F_init_53 rfl ?_
  refine y_new d_F_init_54 n_F_33 (fun q22 h23 _ _ => ?_)
  refine y_dup d_F_init_57 rfl ?_
  refine y_cU (c_in (rest := [.ref q22, .ref a0]) d_F_init_58 k_G_init s_F_35 rfl rfl (Nat.le_of_ble_eq_true rfl) (Nat.le_trans (Nat.le_of_ble_eq_true rfl : 1 + 1 ≤ 5) hD) (S_G_init hfl (Nat.le_refl _) h23 q22)) (fun v25 h24 => ?_)
  refine y_putF d_F_init_61 rfl pf_F_36 rfl rfl (fun h26 => ?_)
  refine y_aload_n d_F_init_64 rfl ?_
  refine y_new d_F_init_65 n_F_40 (fun q27 h28 _ _ => ?_)
  refine y_dup d_F_init_68 rfl ?_
  refine y_cU (c_in (rest := [.ref q27, .ref a0]) d_F_init_69 k_T_init s_F_42 rfl rfl (Nat.le_of_ble_eq_true rfl) (Nat.le_trans (Nat.le_of_ble_eq_true rfl : 3 + 1 ≤ 5) hD) (S_T_init hfl (Nat.le_refl _) h28 q27)) (fun v30 h29 => ?_)
  refine y_putF d_F_init_72 rfl pf_F_43 rfl rfl (fun h31 => ?_)
  refine y_aload_n d_F_init_75 rfl ?_
  refine y_new d_F_init_76 n_F_47 (fun q32 h33 _ _ => ?_)
  refine y_dup d_F_init_79 rfl ?_
  refine y_cU (c_in (rest := [.ref q32, .ref a0]) d_F_init_80 k_SB_init s_F_49 rfl rfl (Nat.le_of_ble_eq_true rfl) (Nat.le_trans (Nat.le_of_ble_eq_true rfl : 2 + 1 ≤ 5) hD) (S_SB_init hfl (Nat.le_refl _) h33 q32)) (fun v35 h34 => ?_)
  refine y_putF d_F_init_83 rfl pf_F_50 rfl rfl (fun h36 => ?_)
  refine y_aload_n d_F_init_86 rfl ?_
  refine y_iconst (v := (J (-1))) d_F_init_87 rfl ?_
  refine y_put d_F_init_88 p_F_54 rfl rfl (fun h37 => ?_)
  refine y_aload_n d_F_init_91 rfl ?_
  refine y_iconst (v := (J (-1))) d_F_init_92 rfl ?_
  refine y_put d_F_init_93 p_F_58 rfl rfl (fun h38 => ?_)
  refine y_aload_n d_F_init_96 rfl ?_
  refine y_iconst (v := (J (-1))) d_F_init_97 rfl ?_
  refine y_put d_F_init_98 p_F_61 rfl rfl (fun h39 => ?_)
  exact y_retU d_F_init_101 rfl
noncomputable def P_F_keepChange (Θ : mW) (N : Nat) (h : mH) (a0 : Nat) : Option (Unit × mH) :=
  (bo (rA Θ h 0 a0 2) (fun v1 => (bo (rA Θ h 0 a0 1) (fun v2 => (gO Θ h 5 v1 (bc (P_H_push Θ N h v1 v2) (fun v4 h3 => (bo (wF Θ h3 0 a0 1 (.ref v4)) (fun h5 => (some ((), h5)))))))))))
theorem S_F_keepChange (hfl : HF l Θ) (hD : 2 ≤ d) (h : mH) (a0 : Nat) : mMs l Θ d M_F_keepChange [.ref a0] h (tR vU) (P_F_keepChange Θ N h a0) := by
  refine mMs.of hfl (by decide +kernel) rfl (Nat.le_of_ble_eq_true rfl) (loc := [some (.ref a0)]) rfl ?_
  unfold P_F_keepChange
  refine y_aload_n d_F_keepChange_0 rfl ?_
  refine y_aload_n d_F_keepChange_1 rfl ?_
  refine y_getA d_F_keepChange_2 f_F_22 (fun v1 => ?_)
  refine y_aload_n d_F_keepChange_5 rfl ?_
  refine y_getA d_F_keepChange_6 f_F_16 (fun v2 => ?_)
  refine y_gO (fun fs1 g1 => y_cA (c_vi (rest := [.ref a0]) d_F_keepChange_9 k_H_push s_F_356 (Or.inl ⟨_, _, _, g1, rfl, rfl⟩) rfl rfl (Nat.le_of_ble_eq_true rfl) (Nat.le_trans (Nat.le_of_ble_eq_true rfl : 1 + 1 ≤ 2) hD) (S_H_push hfl (Nat.le_refl _) h v1 v2)) (fun v4 h3 => ?_))
  refine y_put d_F_keepChange_12 p_F_16 rfl rfl (fun h5 => ?_)
  exact y_retU d_F_keepChange_15 rfl
noncomputable def P_F_startChange (Θ : mW) (N : Nat) (h : mH) (a0 : Nat) : Option (Unit × mH) :=
  (bo (rA Θ h 0 a0 1) (fun v1 => (bo (rA Θ h 0 a0 0) (fun v2 => (gO Θ h 1 v1 (bc (P_D_copyFrom Θ N h v1 v2) (fun v4 h3 => (some ((), h3)))))))))
theorem S_F_startChange (hfl : HF l Θ) (hD : 5 ≤ d) (h : mH) (a0 : Nat) : mMs l Θ d M_F_startChange [.ref a0] h (tR vU) (P_F_startChange Θ N h a0) := by
  refine mMs.of hfl (by decide +kernel) rfl (Nat.le_of_ble_eq_true rfl) (loc := [some (.ref a0)]) rfl ?_
  unfold P_F_startChange
  refine y_aload_n d_F_startChange_0 rfl ?_
  refine y_getA d_F_startChange_1 f_F_16 (fun v1 => ?_)
  refine y_aload_n d_F_startChange_4 rfl ?_
  refine y_getA d_F_startChange_5 f_F_10 (fun v2 => ?_)
  refine y_gO (fun fs1 g1 => y_cU (c_vi (rest := []) d_F_startChange_8 k_D_copyFrom s_F_287 (Or.inl ⟨_, _, _, g1, rfl, rfl⟩) rfl rfl (Nat.le_of_ble_eq_true rfl) (Nat.le_trans (Nat.le_of_ble_eq_true rfl : 4 + 1 ≤ 5) hD) (S_D_copyFrom hfl (Nat.le_refl _) h v1 v2)) (fun v4 h3 => ?_))
  exact y_retU d_F_startChange_11 rfl
noncomputable def P_F_addShip (Θ : mW) (N : Nat) (h : mH) (a0 : Nat) (a1 : Int32) (a2 : Int32) (a3 : Int32) : Option ((Int32 ⊕ Nat) × mH) :=
  (gO Θ h 0 a0 (bc (P_F_startChange Θ N h a0) (fun v2 h1 => (bo (rA Θ h1 0 a0 0) (fun v3 => (bo (rA Θ h1 1 v3 0) (fun v4 => (gO Θ h1 2 v4 (bx (P_L_register Θ N h1 v4 a1 a2 a3) (fun v6 h5 => (gO Θ h5 0 a0 (bc (P_F_keepChange Θ N h5 a0) (fun v8 h7 => (some (.inl v6, h7)))))) (fun n9 h9 => xp n9 h9))))))))))
theorem S_F_addShip (hfl : HF l Θ) (hD : 7 ≤ d) (h : mH) (a0 : Nat) (a1 : Int32) (a2 : Int32) (a3 : Int32) : mMs l Θ d M_F_addShip [.ref a0, .int a1, .int a2, .int a3] h (tX vI) (P_F_addShip Θ N h a0 a1 a2 a3) := by
  refine mMs.of hfl (by decide +kernel) rfl (Nat.le_of_ble_eq_true rfl) (loc := [some (.ref a0), some (.int a1), some (.int a2), some (.int a3), none]) rfl ?_
  unfold P_F_addShip
  refine y_aload_n d_F_addShip_0 rfl ?_
  refine y_gO (fun fs1 g1 => y_cU (c_vi (rest := []) d_F_addShip_1 k_F_startChange s_F_64 (Or.inl ⟨_, _, _, g1, rfl, rfl⟩) rfl rfl (Nat.le_of_ble_eq_true rfl) (Nat.le_trans (Nat.le_of_ble_eq_true rfl : 5 + 1 ≤ 7) hD) (S_F_startChange hfl (Nat.le_refl _) h a0)) (fun v2 h1 => ?_))
  refine y_aload_n d_F_addShip_4 rfl ?_
  refine y_getA d_F_addShip_5 f_F_10 (fun v3 => ?_)
  refine y_getA d_F_addShip_8 f_F_67 (fun v4 => ?_)
  refine y_iload_n d_F_addShip_11 rfl ?_
  refine y_iload_n d_F_addShip_12 rfl ?_
  refine y_iload_n d_F_addShip_13 rfl ?_
  refine y_gO (fun fs1 g1 => y_xI (c_vi (rest := []) d_F_addShip_14 k_L_register s_F_71 (Or.inl ⟨_, _, _, g1, rfl, rfl⟩) rfl rfl (Nat.le_of_ble_eq_true rfl) (Nat.le_trans (Nat.le_of_ble_eq_true rfl : 6 + 1 ≤ 7) hD) (S_L_register hfl (Nat.le_refl _) h1 v4 a1 a2 a3)) (fun v6 h5 => ?_) (fun _ _ => y_hp rfl))
  refine y_istore (loc2 := [some (.ref a0), some (.int a1), some (.int a2), some (.int a3), some (.int v6)]) d_F_addShip_17 (Nat.le_of_ble_eq_true rfl) rfl rfl ?_
  refine y_aload_n d_F_addShip_19 rfl ?_
  refine y_gO (fun fs1 g1 => y_cU (c_vi (rest := []) d_F_addShip_20 k_F_keepChange s_F_77 (Or.inl ⟨_, _, _, g1, rfl, rfl⟩) rfl rfl (Nat.le_of_ble_eq_true rfl) (Nat.le_trans (Nat.le_of_ble_eq_true rfl : 2 + 1 ≤ 7) hD) (S_F_keepChange hfl (Nat.le_refl _) h5 a0)) (fun v8 h7 => ?_))
  refine y_iload d_F_addShip_23 rfl ?_
  exact y_retIX d_F_addShip_25 rfl rfl
noncomputable def P_F_removeShip (Θ : mW) (N : Nat) (h : mH) (a0 : Nat) (a1 : Int32) : Option ((Int32 ⊕ Nat) × mH) :=
  (gO Θ h 0 a0 (bc (P_F_startChange Θ N h a0) (fun v2 h1 => (bo (rA Θ h1 0 a0 0) (fun v3 => (bo (rA Θ h1 1 v3 0) (fun v4 => (gO Θ h1 2 v4 (bx (P_L_strike Θ N h1 v4 a1) (fun v6 h5 => (gO Θ h5 0 a0 (bc (P_F_keepChange Θ N h5 a0) (fun v8 h7 => (some (.inl v6, h7)))))) (fun n9 h9 => xp n9 h9))))))))))
theorem S_F_removeShip (hfl : HF l Θ) (hD : 8 ≤ d) (h : mH) (a0 : Nat) (a1 : Int32) : mMs l Θ d M_F_removeShip [.ref a0, .int a1] h (tX vI) (P_F_removeShip Θ N h a0 a1) := by
  refine mMs.of hfl (by decide +kernel) rfl (Nat.le_of_ble_eq_true rfl) (loc := [some (.ref a0), some (.int a1), none]) rfl ?_
  unfold P_F_removeShip
  refine y_aload_n d_F_removeShip_0 rfl ?_
  refine y_gO (fun fs1 g1 => y_cU (c_vi (rest := []) d_F_removeShip_1 k_F_startChange s_F_64 (Or.inl ⟨_, _, _, g1, rfl, rfl⟩) rfl rfl (Nat.le_of_ble_eq_true rfl) (Nat.le_trans (Nat.le_of_ble_eq_true rfl : 5 + 1 ≤ 8) hD) (S_F_startChange hfl (Nat.le_refl _) h a0)) (fun v2 h1 => ?_))
  refine y_aload_n d_F_removeShip_4 rfl ?_
  refine y_getA d_F_removeShip_5 f_F_10 (fun v3 => ?_)
  refine y_getA d_F_removeShip_8 f_F_67 (fun v4 => ?_)
  refine y_iload_n d_F_removeShip_11 rfl ?_
  refine y_gO (fun fs1 g1 => y_xI (c_vi (rest := []) d_F_removeShip_12 k_L_strike s_F_80 (Or.inl ⟨_, _, _, g1, rfl, rfl⟩) rfl rfl (Nat.le_of_ble_eq_true rfl) (Nat.le_trans (Nat.le_of_ble_eq_true rfl : 7 + 1 ≤ 8) hD) (S_L_strike hfl (Nat.le_refl _) h1 v4 a1)) (fun v6 h5 => ?_) (fun _ _ => y_hp rfl))
  refine y_istore_n (loc2 := [some (.ref a0), some (.int a1), some (.int v6)]) d_F_removeShip_15 (Nat.le_of_ble_eq_true rfl) rfl rfl ?_
  refine y_aload_n d_F_removeShip_16 rfl ?_
  refine y_gO (fun fs1 g1 => y_cU (c_vi (rest := []) d_F_removeShip_17 k_F_keepChange s_F_77 (Or.inl ⟨_, _, _, g1, rfl, rfl⟩) rfl rfl (Nat.le_of_ble_eq_true rfl) (Nat.le_trans (Nat.le_of_ble_eq_true rfl : 2 + 1 ≤ 8) hD) (S_F_keepChange hfl (Nat.le_refl _) h5 a0)) (fun v8 h7 => ?_))
  refine y_iload_n d_F_removeShip_20 rfl ?_
  exact y_retIX d_F_removeShip_21 rfl rfl
noncomputable def P_F_refuseFor (Θ : mW) (N : Nat) (h : mH) (a0 : Nat) (a1 : Int32) : Option ((Unit ⊕ Nat) × mH) :=
  (if a1 = 0 then (some (.inl (), h)) else (bo (wF Θ h 0 a0 8 (.int a1)) (fun h1 => (xp 13 (h1 ++ [oB 13 []])))))
theorem S_F_refuseFor (hfl : HF l Θ) (hD : 6 ≤ d) (h : mH) (a0 : Nat) (a1 : Int32) : mMs l Θ d M_F_refuseFor [.ref a0, .int a1] h (tX vU) (P_F_refuseFor Θ N h a0 a1) := by
  refine mMs.of hfl (by decide +kernel) rfl (Nat.le_of_ble_eq_true rfl) (loc := [some (.ref a0), some (.int a1)]) rfl ?_
  unfold P_F_refuseFor
  refine y_iload_n d_F_refuseFor_0 rfl ?_
  refine y_if_eq (tgt := 20) d_F_refuseFor_1 (by decide) ?_ ?_
  · exact y_retUX d_F_refuseFor_20 rfl
  · refine y_aload_n d_F_refuseFor_4 rfl ?_
    refine y_iload_n d_F_refuseFor_5 rfl ?_
    refine y_put d_F_refuseFor_6 p_F_54 rfl rfl (fun h1 => ?_)
    exact y_throwW rfl d_F_refuseFor_9 d_F_refuseFor_12 d_F_refuseFor_13 d_F_refuseFor_16 d_F_refuseFor_19 mExc_13 y_F_374 x_F_378 (List.mem_of_getElem? (i := 6) rfl) (Nat.le_of_ble_eq_true rfl) (Nat.le_trans (Nat.le_of_ble_eq_true rfl) hD)
noncomputable def P_F_letIn (Θ : mW) (N : Nat) (h : mH) (a0 : Nat) (a1 : Int32) (a2 : Int32) : Option ((Int32 ⊕ Nat) × mH) :=
  (bo (rA Θ h 0 a0 0) (fun v1 => (gO Θ h 1 v1 (bx (P_D_entryRefusal Θ N h v1 a1 a2) (fun v3 h2 => (gO Θ h2 0 a0 (bx (P_F_refuseFor Θ N h2 a0 v3) (fun v5 h4 => (bo (rA Θ h4 0 a0 0) (fun v6 => (gO Θ h4 1 v6 (bx (P_D_moor Θ N h4 v6 a1 a2) (fun v8 h7 => (some (.inl v8, h7))) (fun n9 h9 => xp n9 h9)))))) (fun n9 h9 => xp n9 h9)))) (fun n9 h9 => xp n9 h9)))))
theorem S_F_letIn (hfl : HF l Θ) (hD : 8 ≤ d) (h : mH) (a0 : Nat) (a1 : Int32) (a2 : Int32) : mMs l Θ d M_F_letIn [.ref a0, .int a1, .int a2] h (tX vI) (P_F_letIn Θ N h a0 a1 a2) := by
  refine mMs.of hfl (by decide +kernel) rfl (Nat.le_of_ble_eq_true rfl) (loc := [some (.ref a0), some (.int a1), some (.int a2)]) rfl ?_
  unfold P_F_letIn
  refine y_aload_n d_F_letIn_0 rfl ?_
  refine y_aload_n d_F_letIn_1 rfl ?_
  refine y_getA d_F_letIn_2 f_F_10 (fun v1 => ?_)
  refine y_iload_n d_F_letIn_5 rfl ?_
  refine y_iload_n d_F_letIn_6 rfl ?_
  refine y_gO (fun fs1 g1 => y_xI (c_vi (rest := [.ref a0]) d_F_letIn_7 k_D_entryRefusal s_F_359 (Or.inl ⟨_, _, _, g1, rfl, rfl⟩) rfl rfl (Nat.le_of_ble_eq_true rfl) (Nat.le_trans (Nat.le_of_ble_eq_true rfl : 7 + 1 ≤ 8) hD) (S_D_entryRefusal hfl (Nat.le_refl _) h v1 a1 a2)) (fun v3 h2 => ?_) (fun _ _ => y_hp rfl))
  refine y_gO (fun fs1 g1 => y_xU (c_vi (rest := []) d_F_letIn_10 k_F_refuseFor s_F_362 (Or.inl ⟨_, _, _, g1, rfl, rfl⟩) rfl rfl (Nat.le_of_ble_eq_true rfl) (Nat.le_trans (Nat.le_of_ble_eq_true rfl : 6 + 1 ≤ 8) hD) (S_F_refuseFor hfl (Nat.le_refl _) h2 a0 v3)) (fun v5 h4 => ?_) (fun _ _ => y_hp rfl))
  refine y_aload_n d_F_letIn_13 rfl ?_
  refine y_getA d_F_letIn_14 f_F_10 (fun v6 => ?_)
  refine y_iload_n d_F_letIn_17 rfl ?_
  refine y_iload_n d_F_letIn_18 rfl ?_
  refine y_gO (fun fs1 g1 => y_xI (c_vi (rest := []) d_F_letIn_19 k_D_moor s_F_365 (Or.inl ⟨_, _, _, g1, rfl, rfl⟩) rfl rfl (Nat.le_of_ble_eq_true rfl) (Nat.le_trans (Nat.le_of_ble_eq_true rfl : 7 + 1 ≤ 8) hD) (S_D_moor hfl (Nat.le_refl _) h4 v6 a1 a2)) (fun v8 h7 => ?_) (fun _ _ => y_hp rfl))
  exact y_retIX d_F_letIn_22 rfl rfl
noncomputable def P_F_enter (Θ : mW) (N : Nat) (h : mH) (a0 : Nat) (a1 : Int32) (a2 : Int32) : Option ((Int32 ⊕ Nat) × mH) :=
  (gO Θ h 0 a0 (bc (P_F_startChange Θ N h a0) (fun v2 h1 => (gO Θ h1 0 a0 (bx (P_F_letIn Θ N h1 a0 a1 a2) (fun v4 h3 => (gO Θ h3 0 a0 (bc (P_F_keepChange Θ N h3 a0) (fun v6 h5 => (some (.inl v4, h5)))))) (fun n9 h9 => xp n9 h9))))))
theorem S_F_enter (hfl : HF l Θ) (hD : 9 ≤ d) (h : mH) (a0 : Nat) (a1 : Int32) (a2 : Int32) : mMs l Θ d M_F_enter [.ref a0, .int a1, .int a2] h (tX vI) (P_F_enter Θ N h a0 a1 a2) := by
  refine mMs.of hfl (by decide +kernel) rfl (Nat.le_of_ble_eq_true rfl) (loc := [some (.ref a0), some (.int a1), some (.int a2), none]) rfl ?_
  unfold P_F_enter
  refine y_aload_n d_F_enter_0 rfl ?_
  refine y_gO (fun fs1 g1 => y_cU (c_vi (rest := []) d_F_enter_1 k_F_startChange s_F_64 (Or.inl ⟨_, _, _, g1, rfl, rfl⟩) rfl rfl (Nat.le_of_ble_eq_true rfl) (Nat.le_trans (Nat.le_of_ble_eq_true rfl : 5 + 1 ≤ 9) hD) (S_F_startChange hfl (Nat.le_refl _) h a0)) (fun v2 h1 => ?_))
  refine y_aload_n d_F_enter_4 rfl ?_
  refine y_iload_n d_F_enter_5 rfl ?_
  refine y_iload_n d_F_enter_6 rfl ?_
  refine y_gO (fun fs1 g1 => y_xI (c_vi (rest := []) d_F_enter_7 k_F_letIn s_F_84 (Or.inl ⟨_, _, _, g1, rfl, rfl⟩) rfl rfl (Nat.le_of_ble_eq_true rfl) (Nat.le_trans (Nat.le_of_ble_eq_true rfl : 8 + 1 ≤ 9) hD) (S_F_letIn hfl (Nat.le_refl _) h1 a0 a1 a2)) (fun v4 h3 => ?_) (fun _ _ => y_hp rfl))
  refine y_istore_n (loc2 := [some (.ref a0), some (.int a1), some (.int a2), some (.int v4)]) d_F_enter_10 (Nat.le_of_ble_eq_true rfl) rfl rfl ?_
  refine y_aload_n d_F_enter_11 rfl ?_
  refine y_gO (fun fs1 g1 => y_cU (c_vi (rest := []) d_F_enter_12 k_F_keepChange s_F_77 (Or.inl ⟨_, _, _, g1, rfl, rfl⟩) rfl rfl (Nat.le_of_ble_eq_true rfl) (Nat.le_trans (Nat.le_of_ble_eq_true rfl : 2 + 1 ≤ 9) hD) (S_F_keepChange hfl (Nat.le_refl _) h3 a0)) (fun v6 h5 => ?_))
  refine y_iload_n d_F_enter_15 rfl ?_
  exact y_retIX d_F_enter_16 rfl rfl
noncomputable def P_F_letOut (Θ : mW) (N : Nat) (h : mH) (a0 : Nat) (a1 : Int32) : Option ((Int32 ⊕ Nat) × mH) :=
  (bo (rA Θ h 0 a0 0) (fun v1 => (gO Θ h 1 v1 (bx (P_D_leaveRefusal Θ N h v1 a1) (fun v3 h2 => (gO Θ h2 0 a0 (bx (P_F_refuseFor Θ N h2 a0 v3) (fun v5 h4 => (bo (rA Θ h4 0 a0 0) (fun v6 => (gO Θ h4 1 v6 (bx (P_D_castOff Θ N h4 v6 a1) (fun v8 h7 => (some (.inl v8, h7))) (fun n9 h9 => xp n9 h9)))))) (fun n9 h9 => xp n9 h9)))) (fun n9 h9 => xp n9 h9)))))
theorem S_F_letOut (hfl : HF l Θ) (hD : 9 ≤ d) (h : mH) (a0 : Nat) (a1 : Int32) : mMs l Θ d M_F_letOut [.ref a0, .int a1] h (tX vI) (P_F_letOut Θ N h a0 a1) := by
  refine mMs.of hfl (by decide +kernel) rfl (Nat.le_of_ble_eq_true rfl) (loc := [some (.ref a0), some (.int a1)]) rfl ?_
  unfold P_F_letOut
  refine y_aload_n d_F_letOut_0 rfl ?_
  refine y_aload_n d_F_letOut_1 rfl ?_
  refine y_getA d_F_letOut_2 f_F_10 (fun v1 => ?_)
  refine y_iload_n d_F_letOut_5 rfl ?_
  refine y_gO (fun fs1 g1 => y_xI (c_vi (rest := [.ref a0]) d_F_letOut_6 k_D_leaveRefusal s_F_368 (Or.inl ⟨_, _, _, g1, rfl, rfl⟩) rfl rfl (Nat.le_of_ble_eq_true rfl) (Nat.le_trans (Nat.le_of_ble_eq_true rfl : 8 + 1 ≤ 9) hD) (S_D_leaveRefusal hfl (Nat.le_refl _) h v1 a1)) (fun v3 h2 => ?_) (fun _ _ => y_hp rfl))
  refine y_gO (fun fs1 g1 => y_xU (c_vi (rest := []) d_F_letOut_9 k_F_refuseFor s_F_362 (Or.inl ⟨_, _, _, g1, rfl, rfl⟩) rfl rfl (Nat.le_of_ble_eq_true rfl) (Nat.le_trans (Nat.le_of_ble_eq_true rfl : 6 + 1 ≤ 9) hD) (S_F_refuseFor hfl (Nat.le_refl _) h2 a0 v3)) (fun v5 h4 => ?_) (fun _ _ => y_hp rfl))
  refine y_aload_n d_F_letOut_12 rfl ?_
  refine y_getA d_F_letOut_13 f_F_10 (fun v6 => ?_)
  refine y_iload_n d_F_letOut_16 rfl ?_
  refine y_gO (fun fs1 g1 => y_xI (c_vi (rest := []) d_F_letOut_17 k_D_castOff s_F_371 (Or.inl ⟨_, _, _, g1, rfl, rfl⟩) rfl rfl (Nat.le_of_ble_eq_true rfl) (Nat.le_trans (Nat.le_of_ble_eq_true rfl : 7 + 1 ≤ 9) hD) (S_D_castOff hfl (Nat.le_refl _) h4 v6 a1)) (fun v8 h7 => ?_) (fun _ _ => y_hp rfl))
  exact y_retIX d_F_letOut_20 rfl rfl
noncomputable def P_F_leave (Θ : mW) (N : Nat) (h : mH) (a0 : Nat) (a1 : Int32) : Option ((Int32 ⊕ Nat) × mH) :=
  (gO Θ h 0 a0 (bc (P_F_startChange Θ N h a0) (fun v2 h1 => (gO Θ h1 0 a0 (bx (P_F_letOut Θ N h1 a0 a1) (fun v4 h3 => (gO Θ h3 0 a0 (bc (P_F_keepChange Θ N h3 a0) (fun v6 h5 => (some (.inl v4, h5)))))) (fun n9 h9 => xp n9 h9))))))
theorem S_F_leave (hfl : HF l Θ) (hD : 10 ≤ d) (h : mH) (a0 : Nat) (a1 : Int32) : mMs l Θ d M_F_leave [.ref a0, .int a1] h (tX vI) (P_F_leave Θ N h a0 a1) := by
  refine mMs.of hfl (by decide +kernel) rfl (Nat.le_of_ble_eq_true rfl) (loc := [some (.ref a0), some (.int a1), none]) rfl ?_
  unfold P_F_leave
  refine y_aload_n d_F_leave_0 rfl ?_
  refine y_gO (fun fs1 g1 => y_cU (c_vi (rest := []) d_F_leave_1 k_F_startChange s_F_64 (Or.inl ⟨_, _, _, g1, rfl, rfl⟩) rfl rfl (Nat.le_of_ble_eq_true rfl) (Nat.le_trans (Nat.le_of_ble_eq_true rfl : 5 + 1 ≤ 10) hD) (S_F_startChange hfl (Nat.le_refl _) h a0)) (fun v2 h1 => ?_))
  refine y_aload_n d_F_leave_4 rfl ?_
  refine y_iload_n d_F_leave_5 rfl ?_
  refine y_gO (fun fs1 g1 => y_xI (c_vi (rest := []) d_F_leave_6 k_F_letOut s_F_88 (Or.inl ⟨_, _, _, g1, rfl, rfl⟩) rfl rfl (Nat.le_of_ble_eq_true rfl) (Nat.le_trans (Nat.le_of_ble_eq_true rfl : 9 + 1 ≤ 10) hD) (S_F_letOut hfl (Nat.le_refl _) h1 a0 a1)) (fun v4 h3 => ?_) (fun _ _ => y_hp rfl))
  refine y_istore_n (loc2 := [some (.ref a0), some (.int a1), some (.int v4)]) d_F_leave_9 (Nat.le_of_ble_eq_true rfl) rfl rfl ?_
  refine y_aload_n d_F_leave_10 rfl ?_
  refine y_gO (fun fs1 g1 => y_cU (c_vi (rest := []) d_F_leave_11 k_F_keepChange s_F_77 (Or.inl ⟨_, _, _, g1, rfl, rfl⟩) rfl rfl (Nat.le_of_ble_eq_true rfl) (Nat.le_trans (Nat.le_of_ble_eq_true rfl : 2 + 1 ≤ 10) hD) (S_F_keepChange hfl (Nat.le_refl _) h3 a0)) (fun v6 h5 => ?_))
  refine y_iload_n d_F_leave_14 rfl ?_
  exact y_retIX d_F_leave_15 rfl rfl
noncomputable def P_F_setCleaning (Θ : mW) (N : Nat) (h : mH) (a0 : Nat) (a1 : Int32) (a2 : Int32) : Option ((Int32 ⊕ Nat) × mH) :=
  (gO Θ h 0 a0 (bc (P_F_startChange Θ N h a0) (fun v2 h1 => (bo (rA Θ h1 0 a0 0) (fun v3 => (gO Θ h1 1 v3 (bx (P_D_switchCleaning Θ N h1 v3 a1 a2) (fun v5 h4 => (gO Θ h4 0 a0 (bc (P_F_keepChange Θ N h4 a0) (fun v7 h6 => (if v5 = J 0 ∨ v5 = J 1 then some (.inl v5, h6) else none))))) (fun n9 h9 => xp n9 h9))))))))
theorem S_F_setCleaning (hfl : HF l Θ) (hD : 9 ≤ d) (h : mH) (a0 : Nat) (a1 : Int32) (a2 : Int32) : mMs l Θ d M_F_setCleaning [.ref a0, .int a1, .int a2] h (tX vI) (P_F_setCleaning Θ N h a0 a1 a2) := by
  refine mMs.of hfl (by decide +kernel) rfl (Nat.le_of_ble_eq_true rfl) (loc := [some (.ref a0), some (.int a1), some (.int a2), none]) rfl ?_
  unfold P_F_setCleaning
  refine y_aload_n d_F_setCleaning_0 rfl ?_
  refine y_gO (fun fs1 g1 => y_cU (c_vi (rest := []) d_F_setCleaning_1 k_F_startChange s_F_64 (Or.inl ⟨_, _, _, g1, rfl, rfl⟩) rfl rfl (Nat.le_of_ble_eq_true rfl) (Nat.le_trans (Nat.le_of_ble_eq_true rfl : 5 + 1 ≤ 9) hD) (S_F_startChange hfl (Nat.le_refl _) h a0)) (fun v2 h1 => ?_))
  refine y_aload_n d_F_setCleaning_4 rfl ?_
  refine y_getA d_F_setCleaning_5 f_F_10 (fun v3 => ?_)
  refine y_iload_n d_F_setCleaning_8 rfl ?_
  refine y_iload_n d_F_setCleaning_9 rfl ?_
  refine y_gO (fun fs1 g1 => y_xI (c_vi (rest := []) d_F_setCleaning_10 k_D_switchCleaning s_F_91 (Or.inl ⟨_, _, _, g1, rfl, rfl⟩) rfl rfl (Nat.le_of_ble_eq_true rfl) (Nat.le_trans (Nat.le_of_ble_eq_true rfl : 8 + 1 ≤ 9) hD) (S_D_switchCleaning hfl (Nat.le_refl _) h1 v3 a1 a2)) (fun v5 h4 => ?_) (fun _ _ => y_hp rfl))
  refine y_istore_n (loc2 := [some (.ref a0), some (.int a1), some (.int a2), some (.int v5)]) d_F_setCleaning_13 (Nat.le_of_ble_eq_true rfl) rfl rfl ?_
  refine y_aload_n d_F_setCleaning_14 rfl ?_
  refine y_gO (fun fs1 g1 => y_cU (c_vi (rest := []) d_F_setCleaning_15 k_F_keepChange s_F_77 (Or.inl ⟨_, _, _, g1, rfl, rfl⟩) rfl rfl (Nat.le_of_ble_eq_true rfl) (Nat.le_trans (Nat.le_of_ble_eq_true rfl : 2 + 1 ≤ 9) hD) (S_F_keepChange hfl (Nat.le_refl _) h4 a0)) (fun v7 h6 => ?_))
  refine y_iload_n d_F_setCleaning_18 rfl ?_
  exact y_gZ (fun hn _ => y_retIX d_F_setCleaning_19 rfl hn)
noncomputable def P_F_setGate (Θ : mW) (N : Nat) (h : mH) (a0 : Nat) (a1 : Int32) : Option ((Int32 ⊕ Nat) × mH) :=
  (gO Θ h 0 a0 (bc (P_F_startChange Θ N h a0) (fun v2 h1 => (bo (rA Θ h1 0 a0 0) (fun v3 => (gO Θ h1 1 v3 (bx (P_D_moveGate Θ N h1 v3 a1) (fun v5 h4 => (gO Θ h4 0 a0 (bc (P_F_keepChange Θ N h4 a0) (fun v7 h6 => (if v5 = J 0 ∨ v5 = J 1 then some (.inl v5, h6) else none))))) (fun n9 h9 => xp n9 h9))))))))
theorem S_F_setGate (hfl : HF l Θ) (hD : 7 ≤ d) (h : mH) (a0 : Nat) (a1 : Int32) : mMs l Θ d M_F_setGate [.ref a0, .int a1] h (tX vI) (P_F_setGate Θ N h a0 a1) := by
  refine mMs.of hfl (by decide +kernel) rfl (Nat.le_of_ble_eq_true rfl) (loc := [some (.ref a0), some (.int a1), none]) rfl ?_
  unfold P_F_setGate
  refine y_aload_n d_F_setGate_0 rfl ?_
  refine y_gO (fun fs1 g1 => y_cU (c_vi (rest := []) d_F_setGate_1 k_F_startChange s_F_64 (Or.inl ⟨_, _, _, g1, rfl, rfl⟩) rfl rfl (Nat.le_of_ble_eq_true rfl) (Nat.le_trans (Nat.le_of_ble_eq_true rfl : 5 + 1 ≤ 7) hD) (S_F_startChange hfl (Nat.le_refl _) h a0)) (fun v2 h1 => ?_))
  refine y_aload_n d_F_setGate_4 rfl ?_
  refine y_getA d_F_setGate_5 f_F_10 (fun v3 => ?_)
  refine y_iload_n d_F_setGate_8 rfl ?_
  refine y_gO (fun fs1 g1 => y_xI (c_vi (rest := []) d_F_setGate_9 k_D_moveGate s_F_149 (Or.inl ⟨_, _, _, g1, rfl, rfl⟩) rfl rfl (Nat.le_of_ble_eq_true rfl) (Nat.le_trans (Nat.le_of_ble_eq_true rfl : 6 + 1 ≤ 7) hD) (S_D_moveGate hfl (Nat.le_refl _) h1 v3 a1)) (fun v5 h4 => ?_) (fun _ _ => y_hp rfl))
  refine y_istore_n (loc2 := [some (.ref a0), some (.int a1), some (.int v5)]) d_F_setGate_12 (Nat.le_of_ble_eq_true rfl) rfl rfl ?_
  refine y_aload_n d_F_setGate_13 rfl ?_
  refine y_gO (fun fs1 g1 => y_cU (c_vi (rest := []) d_F_setGate_14 k_F_keepChange s_F_77 (Or.inl ⟨_, _, _, g1, rfl, rfl⟩) rfl rfl (Nat.le_of_ble_eq_true rfl) (Nat.le_trans (Nat.le_of_ble_eq_true rfl : 2 + 1 ≤ 7) hD) (S_F_keepChange hfl (Nat.le_refl _) h4 a0)) (fun v7 h6 => ?_))
  refine y_iload_n d_F_setGate_17 rfl ?_
  exact y_gZ (fun hn _ => y_retIX d_F_setGate_18 rfl hn)
noncomputable def P_F_setPump (Θ : mW) (N : Nat) (h : mH) (a0 : Nat) (a1 : Int32) : Option ((Int32 ⊕ Nat) × mH) :=
  (gO Θ h 0 a0 (bc (P_F_startChange Θ N h a0) (fun v2 h1 => (bo (rA Θ h1 0 a0 0) (fun v3 => (gO Θ h1 1 v3 (bx (P_D_changeRate Θ N h1 v3 a1) (fun v5 h4 => (gO Θ h4 0 a0 (bc (P_F_keepChange Θ N h4 a0) (fun v7 h6 => (some (.inl v5, h6)))))) (fun n9 h9 => xp n9 h9))))))))
theorem S_F_setPump (hfl : HF l Θ) (hD : 7 ≤ d) (h : mH) (a0 : Nat) (a1 : Int32) : mMs l Θ d M_F_setPump [.ref a0, .int a1] h (tX vI) (P_F_setPump Θ N h a0 a1) := by
  refine mMs.of hfl (by decide +kernel) rfl (Nat.le_of_ble_eq_true rfl) (loc := [some (.ref a0), some (.int a1), none]) rfl ?_
  unfold P_F_setPump
  refine y_aload_n d_F_setPump_0 rfl ?_
  refine y_gO (fun fs1 g1 => y_cU (c_vi (rest := []) d_F_setPump_1 k_F_startChange s_F_64 (Or.inl ⟨_, _, _, g1, rfl, rfl⟩) rfl rfl (Nat.le_of_ble_eq_true rfl) (Nat.le_trans (Nat.le_of_ble_eq_true rfl : 5 + 1 ≤ 7) hD) (S_F_startChange hfl (Nat.le_refl _) h a0)) (fun v2 h1 => ?_))
  refine y_aload_n d_F_setPump_4 rfl ?_
  refine y_getA d_F_setPump_5 f_F_10 (fun v3 => ?_)
  refine y_iload_n d_F_setPump_8 rfl ?_
  refine y_gO (fun fs1 g1 => y_xI (c_vi (rest := []) d_F_setPump_9 k_D_changeRate s_F_156 (Or.inl ⟨_, _, _, g1, rfl, rfl⟩) rfl rfl (Nat.le_of_ble_eq_true rfl) (Nat.le_trans (Nat.le_of_ble_eq_true rfl : 6 + 1 ≤ 7) hD) (S_D_changeRate hfl (Nat.le_refl _) h1 v3 a1)) (fun v5 h4 => ?_) (fun _ _ => y_hp rfl))
  refine y_istore_n (loc2 := [some (.ref a0), some (.int a1), some (.int v5)]) d_F_setPump_12 (Nat.le_of_ble_eq_true rfl) rfl rfl ?_
  refine y_aload_n d_F_setPump_13 rfl ?_
  refine y_gO (fun fs1 g1 => y_cU (c_vi (rest := []) d_F_setPump_14 k_F_keepChange s_F_77 (Or.inl ⟨_, _, _, g1, rfl, rfl⟩) rfl rfl (Nat.le_of_ble_eq_true rfl) (Nat.le_trans (Nat.le_of_ble_eq_true rfl : 2 + 1 ≤ 7) hD) (S_F_keepChange hfl (Nat.le_refl _) h4 a0)) (fun v7 h6 => ?_))
  refine y_iload_n d_F_setPump_17 rfl ?_
  exact y_retIX d_F_setPump_18 rfl rfl
noncomputable def P_F_pass (Θ : mW) (N : Nat) (h : mH) (a0 : Nat) (a1 : Int32) : Option ((Int32 ⊕ Nat) × mH) :=
  (gO Θ h 0 a0 (bc (P_F_startChange Θ N h a0) (fun v2 h1 => (bo (rA Θ h1 0 a0 0) (fun v3 => (gO Θ h1 1 v3 (bx (P_D_letPass Θ N h1 v3 a1) (fun v5 h4 => (gO Θ h4 0 a0 (bc (P_F_keepChange Θ N h4 a0) (fun v7 h6 => (some (.inl v5, h6)))))) (fun n9 h9 => xp n9 h9))))))))
theorem S_F_pass (hfl : HF l Θ) (hD : 7 ≤ d) (h : mH) (a0 : Nat) (a1 : Int32) : mMs l Θ d M_F_pass [.ref a0, .int a1] h (tX vI) (P_F_pass Θ N h a0 a1) := by
  refine mMs.of hfl (by decide +kernel) rfl (Nat.le_of_ble_eq_true rfl) (loc := [some (.ref a0), some (.int a1), none]) rfl ?_
  unfold P_F_pass
  refine y_aload_n d_F_pass_0 rfl ?_
  refine y_gO (fun fs1 g1 => y_cU (c_vi (rest := []) d_F_pass_1 k_F_startChange s_F_64 (Or.inl ⟨_, _, _, g1, rfl, rfl⟩) rfl rfl (Nat.le_of_ble_eq_true rfl) (Nat.le_trans (Nat.le_of_ble_eq_true rfl : 5 + 1 ≤ 7) hD) (S_F_startChange hfl (Nat.le_refl _) h a0)) (fun v2 h1 => ?_))
  refine y_aload_n d_F_pass_4 rfl ?_
  refine y_getA d_F_pass_5 f_F_10 (fun v3 => ?_)
  refine y_iload_n d_F_pass_8 rfl ?_
  refine y_gO (fun fs1 g1 => y_xI (c_vi (rest := []) d_F_pass_9 k_D_letPass s_F_171 (Or.inl ⟨_, _, _, g1, rfl, rfl⟩) rfl rfl (Nat.le_of_ble_eq_true rfl) (Nat.le_trans (Nat.le_of_ble_eq_true rfl : 6 + 1 ≤ 7) hD) (S_D_letPass hfl (Nat.le_refl _) h1 v3 a1)) (fun v5 h4 => ?_) (fun _ _ => y_hp rfl))
  refine y_istore_n (loc2 := [some (.ref a0), some (.int a1), some (.int v5)]) d_F_pass_12 (Nat.le_of_ble_eq_true rfl) rfl rfl ?_
  refine y_aload_n d_F_pass_13 rfl ?_
  refine y_gO (fun fs1 g1 => y_cU (c_vi (rest := []) d_F_pass_14 k_F_keepChange s_F_77 (Or.inl ⟨_, _, _, g1, rfl, rfl⟩) rfl rfl (Nat.le_of_ble_eq_true rfl) (Nat.le_trans (Nat.le_of_ble_eq_true rfl : 2 + 1 ≤ 7) hD) (S_F_keepChange hfl (Nat.le_refl _) h4 a0)) (fun v7 h6 => ?_))
  refine y_iload_n d_F_pass_17 rfl ?_
  exact y_retIX d_F_pass_18 rfl rfl
noncomputable def P_F_placeBlock (Θ : mW) (N : Nat) (h : mH) (a0 : Nat) (a1 : Int32) : Option ((Int32 ⊕ Nat) × mH) :=
  (gO Θ h 0 a0 (bc (P_F_startChange Θ N h a0) (fun v2 h1 => (bo (rA Θ h1 0 a0 0) (fun v3 => (gO Θ h1 1 v3 (bx (P_D_addBlock Θ N h1 v3 a1) (fun v5 h4 => (gO Θ h4 0 a0 (bc (P_F_keepChange Θ N h4 a0) (fun v7 h6 => (some (.inl v5, h6)))))) (fun n9 h9 => xp n9 h9))))))))
theorem S_F_placeBlock (hfl : HF l Θ) (hD : 8 ≤ d) (h : mH) (a0 : Nat) (a1 : Int32) : mMs l Θ d M_F_placeBlock [.ref a0, .int a1] h (tX vI) (P_F_placeBlock Θ N h a0 a1) := by
  refine mMs.of hfl (by decide +kernel) rfl (Nat.le_of_ble_eq_true rfl) (loc := [some (.ref a0), some (.int a1), none]) rfl ?_
  unfold P_F_placeBlock
  refine y_aload_n d_F_placeBlock_0 rfl ?_
  refine y_gO (fun fs1 g1 => y_cU (c_vi (rest := []) d_F_placeBlock_1 k_F_startChange s_F_64 (Or.inl ⟨_, _, _, g1, rfl, rfl⟩) rfl rfl (Nat.le_of_ble_eq_true rfl) (Nat.le_trans (Nat.le_of_ble_eq_true rfl : 5 + 1 ≤ 8) hD) (S_F_startChange hfl (Nat.le_refl _) h a0)) (fun v2 h1 => ?_))
  refine y_aload_n d_F_placeBlock_4 rfl ?_
  refine y_getA d_F_placeBlock_5 f_F_10 (fun v3 => ?_)
  refine y_iload_n d_F_placeBlock_8 rfl ?_
  refine y_gO (fun fs1 g1 => y_xI (c_vi (rest := []) d_F_placeBlock_9 k_D_addBlock s_F_183 (Or.inl ⟨_, _, _, g1, rfl, rfl⟩) rfl rfl (Nat.le_of_ble_eq_true rfl) (Nat.le_trans (Nat.le_of_ble_eq_true rfl : 7 + 1 ≤ 8) hD) (S_D_addBlock hfl (Nat.le_refl _) h1 v3 a1)) (fun v5 h4 => ?_) (fun _ _ => y_hp rfl))
  refine y_istore_n (loc2 := [some (.ref a0), some (.int a1), some (.int v5)]) d_F_placeBlock_12 (Nat.le_of_ble_eq_true rfl) rfl rfl ?_
  refine y_aload_n d_F_placeBlock_13 rfl ?_
  refine y_gO (fun fs1 g1 => y_cU (c_vi (rest := []) d_F_placeBlock_14 k_F_keepChange s_F_77 (Or.inl ⟨_, _, _, g1, rfl, rfl⟩) rfl rfl (Nat.le_of_ble_eq_true rfl) (Nat.le_trans (Nat.le_of_ble_eq_true rfl : 2 + 1 ≤ 8) hD) (S_F_keepChange hfl (Nat.le_refl _) h4 a0)) (fun v7 h6 => ?_))
  refine y_iload_n d_F_placeBlock_17 rfl ?_
  exact y_retIX d_F_placeBlock_18 rfl rfl
noncomputable def P_F_removeBlock (Θ : mW) (N : Nat) (h : mH) (a0 : Nat) (a1 : Int32) : Option ((Int32 ⊕ Nat) × mH) :=
  (gO Θ h 0 a0 (bc (P_F_startChange Θ N h a0) (fun v2 h1 => (bo (rA Θ h1 0 a0 0) (fun v3 => (gO Θ h1 1 v3 (bx (P_D_takeBlock Θ N h1 v3 a1) (fun v5 h4 => (gO Θ h4 0 a0 (bc (P_F_keepChange Θ N h4 a0) (fun v7 h6 => (some (.inl v5, h6)))))) (fun n9 h9 => xp n9 h9))))))))
theorem S_F_removeBlock (hfl : HF l Θ) (hD : 8 ≤ d) (h : mH) (a0 : Nat) (a1 : Int32) : mMs l Θ d M_F_removeBlock [.ref a0, .int a1] h (tX vI) (P_F_removeBlock Θ N h a0 a1) := by
  refine mMs.of hfl (by decide +kernel) rfl (Nat.le_of_ble_eq_true rfl) (loc := [some (.ref a0), some (.int a1), none]) rfl ?_
  unfold P_F_removeBlock
  refine y_aload_n d_F_removeBlock_0 rfl ?_
  refine y_gO (fun fs1 g1 => y_cU (c_vi (rest := []) d_F_removeBlock_1 k_F_startChange s_F_64 (Or.inl ⟨_, _, _, g1, rfl, rfl⟩) rfl rfl (Nat.le_of_ble_eq_true rfl) (Nat.le_trans (Nat.le_of_ble_eq_true rfl : 5 + 1 ≤ 8) hD) (S_F_startChange hfl (Nat.le_refl _) h a0)) (fun v2 h1 => ?_))
  refine y_aload_n d_F_removeBlock_4 rfl ?_
  refine y_getA d_F_removeBlock_5 f_F_10 (fun v3 => ?_)
  refine y_iload_n d_F_removeBlock_8 rfl ?_
  refine y_gO (fun fs1 g1 => y_xI (c_vi (rest := []) d_F_removeBlock_9 k_D_takeBlock s_F_186 (Or.inl ⟨_, _, _, g1, rfl, rfl⟩) rfl rfl (Nat.le_of_ble_eq_true rfl) (Nat.le_trans (Nat.le_of_ble_eq_true rfl : 7 + 1 ≤ 8) hD) (S_D_takeBlock hfl (Nat.le_refl _) h1 v3 a1)) (fun v5 h4 => ?_) (fun _ _ => y_hp rfl))
  refine y_istore_n (loc2 := [some (.ref a0), some (.int a1), some (.int v5)]) d_F_removeBlock_12 (Nat.le_of_ble_eq_true rfl) rfl rfl ?_
  refine y_aload_n d_F_removeBlock_13 rfl ?_
  refine y_gO (fun fs1 g1 => y_cU (c_vi (rest := []) d_F_removeBlock_14 k_F_keepChange s_F_77 (Or.inl ⟨_, _, _, g1, rfl, rfl⟩) rfl rfl (Nat.le_of_ble_eq_true rfl) (Nat.le_trans (Nat.le_of_ble_eq_true rfl : 2 + 1 ≤ 8) hD) (S_F_keepChange hfl (Nat.le_refl _) h4 a0)) (fun v7 h6 => ?_))
  refine y_iload_n d_F_removeBlock_17 rfl ?_
  exact y_retIX d_F_removeBlock_18 rfl rfl
noncomputable def P_F_pay (Θ : mW) (N : Nat) (h : mH) (a0 : Nat) (a1 : Int32) (a2 : Int32) : Option ((Int32 ⊕ Nat) × mH) :=
  (gO Θ h 0 a0 (bc (P_F_startChange Θ N h a0) (fun v2 h1 => (bo (rA Θ h1 0 a0 0) (fun v3 => (gO Θ h1 1 v3 (bx (P_D_takeCoins Θ N h1 v3 a1 a2) (fun v5 h4 => (gO Θ h4 0 a0 (bc (P_F_keepChange Θ N h4 a0) (fun v7 h6 => (some (.inl v5, h6)))))) (fun n9 h9 => xp n9 h9))))))))
theorem S_F_pay (hfl : HF l Θ) (hD : 8 ≤ d) (h : mH) (a0 : Nat) (a1 : Int32) (a2 : Int32) : mMs l Θ d M_F_pay [.ref a0, .int a1, .int a2] h (tX vI) (P_F_pay Θ N h a0 a1 a2) := by
  refine mMs.of hfl (by decide +kernel) rfl (Nat.le_of_ble_eq_true rfl) (loc := [some (.ref a0), some (.int a1), some (.int a2), none]) rfl ?_
  unfold P_F_pay
  refine y_aload_n d_F_pay_0 rfl ?_
  refine y_gO (fun fs1 g1 => y_cU (c_vi (rest := []) d_F_pay_1 k_F_startChange s_F_64 (Or.inl ⟨_, _, _, g1, rfl, rfl⟩) rfl rfl (Nat.le_of_ble_eq_true rfl) (Nat.le_trans (Nat.le_of_ble_eq_true rfl : 5 + 1 ≤ 8) hD) (S_F_startChange hfl (Nat.le_refl _) h a0)) (fun v2 h1 => ?_))
  refine y_aload_n d_F_pay_4 rfl ?_
  refine y_getA d_F_pay_5 f_F_10 (fun v3 => ?_)
  refine y_iload_n d_F_pay_8 rfl ?_
  refine y_iload_n d_F_pay_9 rfl ?_
  refine y_gO (fun fs1 g1 => y_xI (c_vi (rest := []) d_F_pay_10 k_D_takeCoins s_F_243 (Or.inl ⟨_, _, _, g1, rfl, rfl⟩) rfl rfl (Nat.le_of_ble_eq_true rfl) (Nat.le_trans (Nat.le_of_ble_eq_true rfl : 7 + 1 ≤ 8) hD) (S_D_takeCoins hfl (Nat.le_refl _) h1 v3 a1 a2)) (fun v5 h4 => ?_) (fun _ _ => y_hp rfl))
  refine y_istore_n (loc2 := [some (.ref a0), some (.int a1), some (.int a2), some (.int v5)]) d_F_pay_13 (Nat.le_of_ble_eq_true rfl) rfl rfl ?_
  refine y_aload_n d_F_pay_14 rfl ?_
  refine y_gO (fun fs1 g1 => y_cU (c_vi (rest := []) d_F_pay_15 k_F_keepChange s_F_77 (Or.inl ⟨_, _, _, g1, rfl, rfl⟩) rfl rfl (Nat.le_of_ble_eq_true rfl) (Nat.le_trans (Nat.le_of_ble_eq_true rfl : 2 + 1 ≤ 8) hD) (S_F_keepChange hfl (Nat.le_refl _) h4 a0)) (fun v7 h6 => ?_))
  refine y_iload_n d_F_pay_18 rfl ?_
  exact y_retIX d_F_pay_19 rfl rfl
noncomputable def P_F_isGateOpen (Θ : mW) (N : Nat) (h : mH) (a0 : Nat) : Option (Int32 × mH) :=
  (bo (rA Θ h 0 a0 0) (fun v1 => (bo (rI Θ h 1 v1 3) (fun v2 => (if v2 = J 0 ∨ v2 = J 1 then some (v2, h) else none)))))
theorem S_F_isGateOpen (hfl : HF l Θ) (hD : 1 ≤ d) (h : mH) (a0 : Nat) : mMs l Θ d M_F_isGateOpen [.ref a0] h (tR vI) (P_F_isGateOpen Θ N h a0) := by
  refine mMs.of hfl (by decide +kernel) rfl (Nat.le_of_ble_eq_true rfl) (loc := [some (.ref a0)]) rfl ?_
  unfold P_F_isGateOpen
  refine y_aload_n d_F_isGateOpen_0 rfl ?_
  refine y_getA d_F_isGateOpen_1 f_F_10 (fun v1 => ?_)
  refine y_getI d_F_isGateOpen_4 f_F_153 (fun v2 => ?_)
  exact y_gZ (fun hn _ => y_retI d_F_isGateOpen_7 rfl hn)
noncomputable def P_F_shipCount (Θ : mW) (N : Nat) (h : mH) (a0 : Nat) : Option (Int32 × mH) :=
  (bo (rA Θ h 0 a0 0) (fun v1 => (bo (rA Θ h 1 v1 0) (fun v2 => (bo (rI Θ h 2 v2 1) (fun v3 => (some (v3, h))))))))
theorem S_F_shipCount (hfl : HF l Θ) (hD : 1 ≤ d) (h : mH) (a0 : Nat) : mMs l Θ d M_F_shipCount [.ref a0] h (tR vI) (P_F_shipCount Θ N h a0) := by
  refine mMs.of hfl (by decide +kernel) rfl (Nat.le_of_ble_eq_true rfl) (loc := [some (.ref a0)]) rfl ?_
  unfold P_F_shipCount
  refine y_aload_n d_F_shipCount_0 rfl ?_
  refine y_getA d_F_shipCount_1 f_F_10 (fun v1 => ?_)
  refine y_getA d_F_shipCount_4 f_F_67 (fun v2 => ?_)
  refine y_getI d_F_shipCount_7 f_F_95 (fun v3 => ?_)
  exact y_retI d_F_shipCount_10 rfl rfl
noncomputable def P_F_shipAt (Θ : mW) (N : Nat) (h : mH) (a0 : Nat) (a1 : Int32) : Option ((Int32 ⊕ Nat) × mH) :=
  (if a1 < 0 then (xp 14 (h ++ [oB 14 []])) else (bo (rA Θ h 0 a0 0) (fun v1 => (bo (rA Θ h 1 v1 0) (fun v2 => (bo (rI Θ h 2 v2 1) (fun v3 => (if a1 < v3 then (bo (rA Θ h 0 a0 0) (fun v4 => (bo (rA Θ h 1 v4 0) (fun v5 => (bo (rA Θ h 2 v5 0) (fun v6 => (bo (aRQ Θ h 5 v6 a1) (fun v7 => (bo (rI Θ h 3 v7 0) (fun v8 => (some (.inl v8, h)))))))))))) else (xp 14 (h ++ [oB 14 []]))))))))))
theorem S_F_shipAt (hfl : HF l Θ) (hD : 6 ≤ d) (h : mH) (a0 : Nat) (a1 : Int32) : mMs l Θ d M_F_shipAt [.ref a0, .int a1] h (tX vI) (P_F_shipAt Θ N h a0 a1) := by
  refine mMs.of hfl (by decide +kernel) rfl (Nat.le_of_ble_eq_true rfl) (loc := [some (.ref a0), some (.int a1)]) rfl ?_
  unfold P_F_shipAt
  refine y_iload_n d_F_shipAt_0 rfl ?_
  refine y_if_lt (tgt := 18) d_F_shipAt_1 (by decide) ?_ ?_
  · exact y_throw rfl d_F_shipAt_18 d_F_shipAt_21 d_F_shipAt_22 d_F_shipAt_24 d_F_shipAt_27 mExc_14 y_F_98 x_F_102 (List.mem_of_getElem? (i := 26) rfl) (Nat.le_of_ble_eq_true rfl) (Nat.le_trans (Nat.le_of_ble_eq_true rfl) hD)
  · refine y_iload_n d_F_shipAt_4 rfl ?_
    refine y_aload_n d_F_shipAt_5 rfl ?_
    refine y_getA d_F_shipAt_6 f_F_10 (fun v1 => ?_)
    refine y_getA d_F_shipAt_9 f_F_67 (fun v2 => ?_)
    refine y_getI d_F_shipAt_12 f_F_95 (fun v3 => ?_)
    refine y_icmp_lt (tgt := 28) d_F_shipAt_15 (by decide) ?_ ?_
    · refine y_aload_n d_F_shipAt_28 rfl ?_
      refine y_getA d_F_shipAt_29 f_F_10 (fun v4 => ?_)
      refine y_getA d_F_shipAt_32 f_F_67 (fun v5 => ?_)
      refine y_getA d_F_shipAt_35 f_F_105 (fun v6 => ?_)
      refine y_iload_n d_F_shipAt_38 rfl ?_
      refine y_qald (Or.inl rfl) d_F_shipAt_39 (fun v7 => ?_)
      refine y_getI d_F_shipAt_40 f_F_109 (fun v8 => ?_)
      exact y_retIX d_F_shipAt_43 rfl rfl
    · exact y_throw rfl d_F_shipAt_18 d_F_shipAt_21 d_F_shipAt_22 d_F_shipAt_24 d_F_shipAt_27 mExc_14 y_F_98 x_F_102 (List.mem_of_getElem? (i := 26) rfl) (Nat.le_of_ble_eq_true rfl) (Nat.le_trans (Nat.le_of_ble_eq_true rfl) hD)
noncomputable def P_F_billOf (Θ : mW) (N : Nat) (h : mH) (a0 : Nat) (a1 : Int32) : Option ((Int32 ⊕ Nat) × mH) :=
  (bo (rA Θ h 0 a0 0) (fun v1 => (bo (rA Θ h 1 v1 0) (fun v2 => (gO Θ h 2 v2 (bx (P_L_known Θ N h v2 a1) (fun v4 h3 => (bo (rI Θ h3 3 v4 6) (fun v5 => (some (.inl v5, h3))))) (fun n9 h9 => xp n9 h9)))))))
theorem S_F_billOf (hfl : HF l Θ) (hD : 7 ≤ d) (h : mH) (a0 : Nat) (a1 : Int32) : mMs l Θ d M_F_billOf [.ref a0, .int a1] h (tX vI) (P_F_billOf Θ N h a0 a1) := by
  refine mMs.of hfl (by decide +kernel) rfl (Nat.le_of_ble_eq_true rfl) (loc := [some (.ref a0), some (.int a1)]) rfl ?_
  unfold P_F_billOf
  refine y_aload_n d_F_billOf_0 rfl ?_
  refine y_getA d_F_billOf_1 f_F_10 (fun v1 => ?_)
  refine y_getA d_F_billOf_4 f_F_67 (fun v2 => ?_)
  refine y_iload_n d_F_billOf_7 rfl ?_
  refine y_gO (fun fs1 g1 => y_xA (c_vi (rest := []) d_F_billOf_8 k_L_known s_F_114 (Or.inl ⟨_, _, _, g1, rfl, rfl⟩) rfl rfl (Nat.le_of_ble_eq_true rfl) (Nat.le_trans (Nat.le_of_ble_eq_true rfl : 6 + 1 ≤ 7) hD) (S_L_known hfl (Nat.le_refl _) h v2 a1)) (fun v4 h3 => ?_) (fun _ _ => y_hp rfl))
  refine y_getI d_F_billOf_11 f_F_240 (fun v5 => ?_)
  exact y_retIX d_F_billOf_14 rfl rfl
noncomputable def P_F_positionOf (Θ : mW) (N : Nat) (h : mH) (a0 : Nat) (a1 : Int32) : Option ((Int32 ⊕ Nat) × mH) :=
  (bo (rA Θ h 0 a0 0) (fun v1 => (bo (rA Θ h 1 v1 0) (fun v2 => (gO Θ h 2 v2 (bx (P_L_docked Θ N h v2 a1) (fun v4 h3 => (bo (rI Θ h3 3 v4 7) (fun v5 => (some (.inl v5, h3))))) (fun n9 h9 => xp n9 h9)))))))
theorem S_F_positionOf (hfl : HF l Θ) (hD : 8 ≤ d) (h : mH) (a0 : Nat) (a1 : Int32) : mMs l Θ d M_F_positionOf [.ref a0, .int a1] h (tX vI) (P_F_positionOf Θ N h a0 a1) := by
  refine mMs.of hfl (by decide +kernel) rfl (Nat.le_of_ble_eq_true rfl) (loc := [some (.ref a0), some (.int a1)]) rfl ?_
  unfold P_F_positionOf
  refine y_aload_n d_F_positionOf_0 rfl ?_
  refine y_getA d_F_positionOf_1 f_F_10 (fun v1 => ?_)
  refine y_getA d_F_positionOf_4 f_F_67 (fun v2 => ?_)
  refine y_iload_n d_F_positionOf_7 rfl ?_
  refine y_gO (fun fs1 g1 => y_xA (c_vi (rest := []) d_F_positionOf_8 k_L_docked s_F_122 (Or.inl ⟨_, _, _, g1, rfl, rfl⟩) rfl rfl (Nat.le_of_ble_eq_true rfl) (Nat.le_trans (Nat.le_of_ble_eq_true rfl : 7 + 1 ≤ 8) hD) (S_L_docked hfl (Nat.le_refl _) h v2 a1)) (fun v4 h3 => ?_) (fun _ _ => y_hp rfl))
  refine y_getI d_F_positionOf_11 f_F_125 (fun v5 => ?_)
  exact y_retIX d_F_positionOf_14 rfl rfl
noncomputable def P_F_seaLevel (Θ : mW) (N : Nat) (h : mH) (a0 : Nat) (a1 : Int32) : Option ((Int32 ⊕ Nat) × mH) :=
  (bx (P_E_checkHour Θ N h a1) (fun v2 h1 => (bc (P_E_byFormula Θ N h1 a1) (fun v4 h3 => (some (.inl v4, h3))))) (fun n9 h9 => xp n9 h9))
theorem S_F_seaLevel (hfl : HF l Θ) (hD : 7 ≤ d) (h : mH) (a0 : Nat) (a1 : Int32) : mMs l Θ d M_F_seaLevel [.ref a0, .int a1] h (tX vI) (P_F_seaLevel Θ N h a0 a1) := by
  refine mMs.of hfl (by decide +kernel) rfl (Nat.le_of_ble_eq_true rfl) (loc := [some (.ref a0), some (.int a1)]) rfl ?_
  unfold P_F_seaLevel
  refine y_iload_n d_F_seaLevel_0 rfl ?_
  refine y_xU (c_st (rest := []) d_F_seaLevel_1 k_E_checkHour s_F_159 rfl rfl (Nat.le_of_ble_eq_true rfl) (Nat.le_trans (Nat.le_of_ble_eq_true rfl : 6 + 1 ≤ 7) hD) (S_E_checkHour hfl (Nat.le_refl _) h a1)) (fun v2 h1 => ?_) (fun _ _ => y_hp rfl)
  refine y_iload_n d_F_seaLevel_4 rfl ?_
  refine y_cI (c_st (rest := []) d_F_seaLevel_5 k_E_byFormula s_F_165 rfl rfl (Nat.le_of_ble_eq_true rfl) (Nat.le_trans (Nat.le_of_ble_eq_true rfl : 1 + 1 ≤ 7) hD) (S_E_byFormula hfl (Nat.le_refl _) h1 a1)) (fun v4 h3 => ?_)
  exact y_retIX d_F_seaLevel_8 rfl rfl
noncomputable def P_F_levelAfter (Θ : mW) (N : Nat) (h : mH) (a0 : Nat) (a1 : Int32) : Option ((Int32 ⊕ Nat) × mH) :=
  (bo (rA Θ h 0 a0 0) (fun v1 => (gO Θ h 1 v1 (bx (P_D_foreseenLevel Θ N h v1 a1) (fun v3 h2 => (some (.inl v3, h2))) (fun n9 h9 => xp n9 h9)))))
theorem S_F_levelAfter (hfl : HF l Θ) (hD : 7 ≤ d) (h : mH) (a0 : Nat) (a1 : Int32) : mMs l Θ d M_F_levelAfter [.ref a0, .int a1] h (tX vI) (P_F_levelAfter Θ N h a0 a1) := by
  refine mMs.of hfl (by decide +kernel) rfl (Nat.le_of_ble_eq_true rfl) (loc := [some (.ref a0), some (.int a1)]) rfl ?_
  unfold P_F_levelAfter
  refine y_aload_n d_F_levelAfter_0 rfl ?_
  refine y_getA d_F_levelAfter_1 f_F_10 (fun v1 => ?_)
  refine y_iload_n d_F_levelAfter_4 rfl ?_
  refine y_gO (fun fs1 g1 => y_xI (c_vi (rest := []) d_F_levelAfter_5 k_D_foreseenLevel s_F_177 (Or.inl ⟨_, _, _, g1, rfl, rfl⟩) rfl rfl (Nat.le_of_ble_eq_true rfl) (Nat.le_trans (Nat.le_of_ble_eq_true rfl : 6 + 1 ≤ 7) hD) (S_D_foreseenLevel hfl (Nat.le_refl _) h v1 a1)) (fun v3 h2 => ?_) (fun _ _ => y_hp rfl))
  exact y_retIX d_F_levelAfter_8 rfl rfl
noncomputable def P_F_hoursUntilAfloat (Θ : mW) (N : Nat) (h : mH) (a0 : Nat) (a1 : Int32) : Option ((Int32 ⊕ Nat) × mH) :=
  (bo (rA Θ h 0 a0 0) (fun v1 => (gO Θ h 1 v1 (bx (P_D_hoursToFloat Θ N h v1 a1) (fun v3 h2 => (some (.inl v3, h2))) (fun n9 h9 => xp n9 h9)))))
theorem S_F_hoursUntilAfloat (hfl : HF l Θ) (hD : 8 ≤ d) (h : mH) (a0 : Nat) (a1 : Int32) : mMs l Θ d M_F_hoursUntilAfloat [.ref a0, .int a1] h (tX vI) (P_F_hoursUntilAfloat Θ N h a0 a1) := by
  refine mMs.of hfl (by decide +kernel) rfl (Nat.le_of_ble_eq_true rfl) (loc := [some (.ref a0), some (.int a1)]) rfl ?_
  unfold P_F_hoursUntilAfloat
  refine y_aload_n d_F_hoursUntilAfloat_0 rfl ?_
  refine y_getA d_F_hoursUntilAfloat_1 f_F_10 (fun v1 => ?_)
  refine y_iload_n d_F_hoursUntilAfloat_4 rfl ?_
  refine y_gO (fun fs1 g1 => y_xI (c_vi (rest := []) d_F_hoursUntilAfloat_5 k_D_hoursToFloat s_F_180 (Or.inl ⟨_, _, _, g1, rfl, rfl⟩) rfl rfl (Nat.le_of_ble_eq_true rfl) (Nat.le_trans (Nat.le_of_ble_eq_true rfl : 7 + 1 ≤ 8) hD) (S_D_hoursToFloat hfl (Nat.le_refl _) h v1 a1)) (fun v3 h2 => ?_) (fun _ _ => y_hp rfl))
  exact y_retIX d_F_hoursUntilAfloat_8 rfl rfl
noncomputable def P_F_hasBlock (Θ : mW) (N : Nat) (h : mH) (a0 : Nat) (a1 : Int32) : Option ((Int32 ⊕ Nat) × mH) :=
  (bx (P_B_checkPosition Θ N h a1) (fun v2 h1 => (bo (rA Θ h1 0 a0 0) (fun v3 => (bo (rA Θ h1 1 v3 1) (fun v4 => (gO Θ h1 4 v4 (bc (P_B_isAt Θ N h1 v4 a1) (fun v6 h5 => (if v6 = J 0 ∨ v6 = J 1 then some (.inl v6, h5) else none))))))))) (fun n9 h9 => xp n9 h9))
theorem S_F_hasBlock (hfl : HF l Θ) (hD : 7 ≤ d) (h : mH) (a0 : Nat) (a1 : Int32) : mMs l Θ d M_F_hasBlock [.ref a0, .int a1] h (tX vI) (P_F_hasBlock Θ N h a0 a1) := by
  refine mMs.of hfl (by decide +kernel) rfl (Nat.le_of_ble_eq_true rfl) (loc := [some (.ref a0), some (.int a1)]) rfl ?_
  unfold P_F_hasBlock
  refine y_iload_n d_F_hasBlock_0 rfl ?_
  refine y_xU (c_st (rest := []) d_F_hasBlock_1 k_B_checkPosition s_F_189 rfl rfl (Nat.le_of_ble_eq_true rfl) (Nat.le_trans (Nat.le_of_ble_eq_true rfl : 6 + 1 ≤ 7) hD) (S_B_checkPosition hfl (Nat.le_refl _) h a1)) (fun v2 h1 => ?_) (fun _ _ => y_hp rfl)
  refine y_aload_n d_F_hasBlock_4 rfl ?_
  refine y_getA d_F_hasBlock_5 f_F_10 (fun v3 => ?_)
  refine y_getA d_F_hasBlock_8 f_F_194 (fun v4 => ?_)
  refine y_iload_n d_F_hasBlock_11 rfl ?_
  refine y_gO (fun fs1 g1 => y_cI (c_vi (rest := []) d_F_hasBlock_12 k_B_isAt s_F_198 (Or.inl ⟨_, _, _, g1, rfl, rfl⟩) rfl rfl (Nat.le_of_ble_eq_true rfl) (Nat.le_trans (Nat.le_of_ble_eq_true rfl : 2 + 1 ≤ 7) hD) (S_B_isAt hfl (Nat.le_refl _) h1 v4 a1)) (fun v6 h5 => ?_))
  exact y_gZ (fun hn _ => y_retIX d_F_hasBlock_15 rfl hn)
noncomputable def P_F_shipAtPosition (Θ : mW) (N : Nat) (h : mH) (a0 : Nat) (a1 : Int32) : Option ((Int32 ⊕ Nat) × mH) :=
  (bx (P_B_checkPosition Θ N h a1) (fun v2 h1 => (bo (rA Θ h1 0 a0 0) (fun v3 => (bo (rA Θ h1 1 v3 0) (fun v4 => (gO Θ h1 2 v4 (bn (P_L_overlapping Θ N h1 v4 a1 (J 1)) (fun v6 h5 => (bo (rI Θ h5 3 v6 0) (fun v8 => (some (.inl v8, h5))))) (fun h7 => (xp 10 (h7 ++ [oB 10 []])))))))))) (fun n9 h9 => xp n9 h9))
theorem S_F_shipAtPosition (hfl : HF l Θ) (hD : 7 ≤ d) (h : mH) (a0 : Nat) (a1 : Int32) : mMs l Θ d M_F_shipAtPosition [.ref a0, .int a1] h (tX vI) (P_F_shipAtPosition Θ N h a0 a1) := by
  refine mMs.of hfl (by decide +kernel) rfl (Nat.le_of_ble_eq_true rfl) (loc := [some (.ref a0), some (.int a1), none]) rfl ?_
  unfold P_F_shipAtPosition
  refine y_iload_n d_F_shipAtPosition_0 rfl ?_
  refine y_xU (c_st (rest := []) d_F_shipAtPosition_1 k_B_checkPosition s_F_189 rfl rfl (Nat.le_of_ble_eq_true rfl) (Nat.le_trans (Nat.le_of_ble_eq_true rfl : 6 + 1 ≤ 7) hD) (S_B_checkPosition hfl (Nat.le_refl _) h a1)) (fun v2 h1 => ?_) (fun _ _ => y_hp rfl)
  refine y_aload_n d_F_shipAtPosition_4 rfl ?_
  refine y_getA d_F_shipAtPosition_5 f_F_10 (fun v3 => ?_)
  refine y_getA d_F_shipAtPosition_8 f_F_67 (fun v4 => ?_)
  refine y_iload_n d_F_shipAtPosition_11 rfl ?_
  refine y_iconst (v := (J 1)) d_F_shipAtPosition_12 rfl ?_
  refine y_gO (fun fs1 g1 => y_cN (c_vi (rest := []) d_F_shipAtPosition_13 k_L_overlapping s_F_208 (Or.inl ⟨_, _, _, g1, rfl, rfl⟩) rfl rfl (Nat.le_of_ble_eq_true rfl) (Nat.le_trans (Nat.le_of_ble_eq_true rfl : 2 + 1 ≤ 7) hD) (S_L_overlapping hfl (Nat.le_refl _) h1 v4 a1 (J 1))) (fun v6 h5 => ?_) (fun h7 => ?_))
  · refine y_astore_n (loc2 := [some (.ref a0), some (.int a1), some (.ref v6)]) d_F_shipAtPosition_16 (Nat.le_of_ble_eq_true rfl) rfl rfl ?_
    refine y_aload_n d_F_shipAtPosition_17 rfl ?_
    refine y_ifnonnull (tgt := 31) d_F_shipAtPosition_18 (by decide) ?_
    refine y_aload_n d_F_shipAtPosition_31 rfl ?_
    refine y_getI d_F_shipAtPosition_32 f_F_109 (fun v8 => ?_)
    exact y_retIX d_F_shipAtPosition_35 rfl rfl
  · refine y_astore_nN (loc2 := [some (.ref a0), some (.int a1), some (.null)]) d_F_shipAtPosition_16 (Nat.le_of_ble_eq_true rfl) rfl rfl ?_
    refine y_aload_nN d_F_shipAtPosition_17 rfl ?_
    refine y_ifnonnullN d_F_shipAtPosition_18 ?_
    exact y_throw rfl d_F_shipAtPosition_21 d_F_shipAtPosition_24 d_F_shipAtPosition_25 d_F_shipAtPosition_27 d_F_shipAtPosition_30 mExc_10 y_F_144 x_F_148 (List.mem_of_getElem? (i := 30) rfl) (Nat.le_of_ble_eq_true rfl) (Nat.le_trans (Nat.le_of_ble_eq_true rfl) hD)
noncomputable def P_F_foundGap (Θ : mW) (N : Nat) (h : mH) (a0 : Int32) : Option ((Int32 ⊕ Nat) × mH) :=
  (if a0 = (J (-1)) then (xp 10 (h ++ [oB 10 []])) else (some (.inl a0, h)))
theorem S_F_foundGap (hfl : HF l Θ) (hD : 6 ≤ d) (h : mH) (a0 : Int32) : mMs l Θ d M_F_foundGap [.int a0] h (tX vI) (P_F_foundGap Θ N h a0) := by
  refine mMs.of hfl (by decide +kernel) rfl (Nat.le_of_ble_eq_true rfl) (loc := [some (.int a0)]) rfl ?_
  unfold P_F_foundGap
  refine y_iload_n d_F_foundGap_0 rfl ?_
  refine y_iconst (v := (J (-1))) d_F_foundGap_1 rfl ?_
  refine y_icmp_ne (tgt := 16) d_F_foundGap_2 (by decide) ?_ ?_
  · refine y_iload_n d_F_foundGap_16 rfl ?_
    exact y_retIX d_F_foundGap_17 rfl rfl
  · exact y_throwW rfl d_F_foundGap_5 d_F_foundGap_8 d_F_foundGap_9 d_F_foundGap_12 d_F_foundGap_15 mExc_10 y_F_144 x_F_148 (List.mem_of_getElem? (i := 32) rfl) (Nat.le_of_ble_eq_true rfl) (Nat.le_trans (Nat.le_of_ble_eq_true rfl) hD)
noncomputable def P_F_firstGap (Θ : mW) (N : Nat) (h : mH) (a0 : Nat) (a1 : Int32) : Option ((Int32 ⊕ Nat) × mH) :=
  (bx (P_L_checkGapLength Θ N h a1) (fun v2 h1 => (bo (rA Θ h1 0 a0 0) (fun v3 => (bo (rA Θ h1 1 v3 0) (fun v4 => (gO Θ h1 2 v4 (bc (P_L_gapByPositions Θ N h1 v4 a1) (fun v6 h5 => (bx (P_F_foundGap Θ N h5 v6) (fun v8 h7 => (some (.inl v8, h7))) (fun n9 h9 => xp n9 h9)))))))))) (fun n9 h9 => xp n9 h9))
theorem S_F_firstGap (hfl : HF l Θ) (hD : 7 ≤ d) (h : mH) (a0 : Nat) (a1 : Int32) : mMs l Θ d M_F_firstGap [.ref a0, .int a1] h (tX vI) (P_F_firstGap Θ N h a0 a1) := by
  refine mMs.of hfl (by decide +kernel) rfl (Nat.le_of_ble_eq_true rfl) (loc := [some (.ref a0), some (.int a1)]) rfl ?_
  unfold P_F_firstGap
  refine y_iload_n d_F_firstGap_0 rfl ?_
  refine y_xU (c_st (rest := []) d_F_firstGap_1 k_L_checkGapLength s_F_214 rfl rfl (Nat.le_of_ble_eq_true rfl) (Nat.le_trans (Nat.le_of_ble_eq_true rfl : 6 + 1 ≤ 7) hD) (S_L_checkGapLength hfl (Nat.le_refl _) h a1)) (fun v2 h1 => ?_) (fun _ _ => y_hp rfl)
  refine y_aload_n d_F_firstGap_4 rfl ?_
  refine y_getA d_F_firstGap_5 f_F_10 (fun v3 => ?_)
  refine y_getA d_F_firstGap_8 f_F_67 (fun v4 => ?_)
  refine y_iload_n d_F_firstGap_11 rfl ?_
  refine y_gO (fun fs1 g1 => y_cI (c_vi (rest := []) d_F_firstGap_12 k_L_gapByPositions s_F_217 (Or.inl ⟨_, _, _, g1, rfl, rfl⟩) rfl rfl (Nat.le_of_ble_eq_true rfl) (Nat.le_trans (Nat.le_of_ble_eq_true rfl : 3 + 1 ≤ 7) hD) (S_L_gapByPositions hfl (Nat.le_refl _) h1 v4 a1)) (fun v6 h5 => ?_))
  refine y_xI (c_st (rest := []) d_F_firstGap_15 k_F_foundGap s_F_220 rfl rfl (Nat.le_of_ble_eq_true rfl) (Nat.le_trans (Nat.le_of_ble_eq_true rfl : 6 + 1 ≤ 7) hD) (S_F_foundGap hfl (Nat.le_refl _) h5 v6)) (fun v8 h7 => ?_) (fun _ _ => y_hp rfl)
  exact y_retIX d_F_firstGap_18 rfl rfl
noncomputable def P_F_firstGapByShips (Θ : mW) (N : Nat) (h : mH) (a0 : Nat) (a1 : Int32) : Option ((Int32 ⊕ Nat) × mH) :=
  (bx (P_L_checkGapLength Θ N h a1) (fun v2 h1 => (bo (rA Θ h1 0 a0 0) (fun v3 => (bo (rA Θ h1 1 v3 0) (fun v4 => (gO Θ h1 2 v4 (bc (P_L_gapByShips Θ N h1 v4 a1) (fun v6 h5 => (bx (P_F_foundGap Θ N h5 v6) (fun v8 h7 => (some (.inl v8, h7))) (fun n9 h9 => xp n9 h9)))))))))) (fun n9 h9 => xp n9 h9))
theorem S_F_firstGapByShips (hfl : HF l Θ) (hD : 7 ≤ d) (h : mH) (a0 : Nat) (a1 : Int32) : mMs l Θ d M_F_firstGapByShips [.ref a0, .int a1] h (tX vI) (P_F_firstGapByShips Θ N h a0 a1) := by
  refine mMs.of hfl (by decide +kernel) rfl (Nat.le_of_ble_eq_true rfl) (loc := [some (.ref a0), some (.int a1)]) rfl ?_
  unfold P_F_firstGapByShips
  refine y_iload_n d_F_firstGapByShips_0 rfl ?_
  refine y_xU (c_st (rest := []) d_F_firstGapByShips_1 k_L_checkGapLength s_F_214 rfl rfl (Nat.le_of_ble_eq_true rfl) (Nat.le_trans (Nat.le_of_ble_eq_true rfl : 6 + 1 ≤ 7) hD) (S_L_checkGapLength hfl (Nat.le_refl _) h a1)) (fun v2 h1 => ?_) (fun _ _ => y_hp rfl)
  refine y_aload_n d_F_firstGapByShips_4 rfl ?_
  refine y_getA d_F_firstGapByShips_5 f_F_10 (fun v3 => ?_)
  refine y_getA d_F_firstGapByShips_8 f_F_67 (fun v4 => ?_)
  refine y_iload_n d_F_firstGapByShips_11 rfl ?_
  refine y_gO (fun fs1 g1 => y_cI (c_vi (rest := []) d_F_firstGapByShips_12 k_L_gapByShips s_F_223 (Or.inl ⟨_, _, _, g1, rfl, rfl⟩) rfl rfl (Nat.le_of_ble_eq_true rfl) (Nat.le_trans (Nat.le_of_ble_eq_true rfl : 3 + 1 ≤ 7) hD) (S_L_gapByShips hfl (Nat.le_refl _) h1 v4 a1)) (fun v6 h5 => ?_))
  refine y_xI (c_st (rest := []) d_F_firstGapByShips_15 k_F_foundGap s_F_220 rfl rfl (Nat.le_of_ble_eq_true rfl) (Nat.le_trans (Nat.le_of_ble_eq_true rfl : 6 + 1 ≤ 7) hD) (S_F_foundGap hfl (Nat.le_refl _) h5 v6)) (fun v8 h7 => ?_) (fun _ _ => y_hp rfl)
  exact y_retIX d_F_firstGapByShips_18 rfl rfl
noncomputable def P_F_shipAtRank (Θ : mW) (N : Nat) (h : mH) (a0 : Nat) (a1 : Int32) : Option ((Int32 ⊕ Nat) × mH) :=
  (bo (rA Θ h 0 a0 0) (fun v1 => (bo (rA Θ h 1 v1 0) (fun v2 => (gO Θ h 2 v2 (bn (P_L_ranked Θ N h v2 a1) (fun v4 h3 => (bo (rI Θ h3 3 v4 0) (fun v6 => (some (.inl v6, h3))))) (fun h5 => (xp 14 (h5 ++ [oB 14 []])))))))))
theorem S_F_shipAtRank (hfl : HF l Θ) (hD : 6 ≤ d) (h : mH) (a0 : Nat) (a1 : Int32) : mMs l Θ d M_F_shipAtRank [.ref a0, .int a1] h (tX vI) (P_F_shipAtRank Θ N h a0 a1) := by
  refine mMs.of hfl (by decide +kernel) rfl (Nat.le_of_ble_eq_true rfl) (loc := [some (.ref a0), some (.int a1), none]) rfl ?_
  unfold P_F_shipAtRank
  refine y_aload_n d_F_shipAtRank_0 rfl ?_
  refine y_getA d_F_shipAtRank_1 f_F_10 (fun v1 => ?_)
  refine y_getA d_F_shipAtRank_4 f_F_67 (fun v2 => ?_)
  refine y_iload_n d_F_shipAtRank_7 rfl ?_
  refine y_gO (fun fs1 g1 => y_cN (c_vi (rest := []) d_F_shipAtRank_8 k_L_ranked s_F_255 (Or.inl ⟨_, _, _, g1, rfl, rfl⟩) rfl rfl (Nat.le_of_ble_eq_true rfl) (Nat.le_trans (Nat.le_of_ble_eq_true rfl : 3 + 1 ≤ 6) hD) (S_L_ranked hfl (Nat.le_refl _) h v2 a1)) (fun v4 h3 => ?_) (fun h5 => ?_))
  · refine y_astore_n (loc2 := [some (.ref a0), some (.int a1), some (.ref v4)]) d_F_shipAtRank_11 (Nat.le_of_ble_eq_true rfl) rfl rfl ?_
    refine y_aload_n d_F_shipAtRank_12 rfl ?_
    refine y_ifnonnull (tgt := 27) d_F_shipAtRank_13 (by decide) ?_
    refine y_aload_n d_F_shipAtRank_27 rfl ?_
    refine y_getI d_F_shipAtRank_28 f_F_109 (fun v6 => ?_)
    exact y_retIX d_F_shipAtRank_31 rfl rfl
  · refine y_astore_nN (loc2 := [some (.ref a0), some (.int a1), some (.null)]) d_F_shipAtRank_11 (Nat.le_of_ble_eq_true rfl) rfl rfl ?_
    refine y_aload_nN d_F_shipAtRank_12 rfl ?_
    refine y_ifnonnullN d_F_shipAtRank_13 ?_
    exact y_throwW rfl d_F_shipAtRank_16 d_F_shipAtRank_19 d_F_shipAtRank_20 d_F_shipAtRank_23 d_F_shipAtRank_26 mExc_14 y_F_98 x_F_102 (List.mem_of_getElem? (i := 33) rfl) (Nat.le_of_ble_eq_true rfl) (Nat.le_trans (Nat.le_of_ble_eq_true rfl) hD)
noncomputable def P_F_dirtOf (Θ : mW) (N : Nat) (h : mH) (a0 : Nat) (a1 : Int32) : Option ((Int32 ⊕ Nat) × mH) :=
  (bo (rA Θ h 0 a0 0) (fun v1 => (bo (rA Θ h 1 v1 0) (fun v2 => (gO Θ h 2 v2 (bx (P_L_known Θ N h v2 a1) (fun v4 h3 => (bo (rI Θ h3 3 v4 3) (fun v5 => (some (.inl v5, h3))))) (fun n9 h9 => xp n9 h9)))))))
theorem S_F_dirtOf (hfl : HF l Θ) (hD : 7 ≤ d) (h : mH) (a0 : Nat) (a1 : Int32) : mMs l Θ d M_F_dirtOf [.ref a0, .int a1] h (tX vI) (P_F_dirtOf Θ N h a0 a1) := by
  refine mMs.of hfl (by decide +kernel) rfl (Nat.le_of_ble_eq_true rfl) (loc := [some (.ref a0), some (.int a1)]) rfl ?_
  unfold P_F_dirtOf
  refine y_aload_n d_F_dirtOf_0 rfl ?_
  refine y_getA d_F_dirtOf_1 f_F_10 (fun v1 => ?_)
  refine y_getA d_F_dirtOf_4 f_F_67 (fun v2 => ?_)
  refine y_iload_n d_F_dirtOf_7 rfl ?_
  refine y_gO (fun fs1 g1 => y_xA (c_vi (rest := []) d_F_dirtOf_8 k_L_known s_F_114 (Or.inl ⟨_, _, _, g1, rfl, rfl⟩) rfl rfl (Nat.le_of_ble_eq_true rfl) (Nat.le_trans (Nat.le_of_ble_eq_true rfl : 6 + 1 ≤ 7) hD) (S_L_known hfl (Nat.le_refl _) h v2 a1)) (fun v4 h3 => ?_) (fun _ _ => y_hp rfl))
  refine y_getI d_F_dirtOf_11 f_F_128 (fun v5 => ?_)
  exact y_retIX d_F_dirtOf_14 rfl rfl
noncomputable def P_F_blocksBeneath (Θ : mW) (N : Nat) (h : mH) (a0 : Nat) (a1 : Int32) : Option ((Int32 ⊕ Nat) × mH) :=
  (bo (rA Θ h 0 a0 0) (fun v1 => (bo (rA Θ h 1 v1 1) (fun v2 => (bo (rA Θ h 0 a0 0) (fun v3 => (bo (rA Θ h 1 v3 0) (fun v4 => (gO Θ h 2 v4 (bx (P_L_known Θ N h v4 a1) (fun v6 h5 => (gO Θ h5 4 v2 (bc (P_B_beneathByMetres Θ N h5 v2 v6) (fun v8 h7 => (some (.inl v8, h7)))))) (fun n9 h9 => xp n9 h9)))))))))))
theorem S_F_blocksBeneath (hfl : HF l Θ) (hD : 7 ≤ d) (h : mH) (a0 : Nat) (a1 : Int32) : mMs l Θ d M_F_blocksBeneath [.ref a0, .int a1] h (tX vI) (P_F_blocksBeneath Θ N h a0 a1) := by
  refine mMs.of hfl (by decide +kernel) rfl (Nat.le_of_ble_eq_true rfl) (loc := [some (.ref a0), some (.int a1)]) rfl ?_
  unfold P_F_blocksBeneath
  refine y_aload_n d_F_blocksBeneath_0 rfl ?_
  refine y_getA d_F_blocksBeneath_1 f_F_10 (fun v1 => ?_)
  refine y_getA d_F_blocksBeneath_4 f_F_194 (fun v2 => ?_)
  refine y_aload_n d_F_blocksBeneath_7 rfl ?_
  refine y_getA d_F_blocksBeneath_8 f_F_10 (fun v3 => ?_)
  refine y_getA d_F_blocksBeneath_11 f_F_67 (fun v4 => ?_)
  refine y_iload_n d_F_blocksBeneath_14 rfl ?_
  refine y_gO (fun fs1 g1 => y_xA (c_vi (rest := [.ref v2]) d_F_blocksBeneath_15 k_L_known s_F_114 (Or.inl ⟨_, _, _, g1, rfl, rfl⟩) rfl rfl (Nat.le_of_ble_eq_true rfl) (Nat.le_trans (Nat.le_of_ble_eq_true rfl : 6 + 1 ≤ 7) hD) (S_L_known hfl (Nat.le_refl _) h v4 a1)) (fun v6 h5 => ?_) (fun _ _ => y_hp rfl))
  refine y_gO (fun fs1 g1 => y_cI (c_vi (rest := []) d_F_blocksBeneath_18 k_B_beneathByMetres s_F_201 (Or.inl ⟨_, _, _, g1, rfl, rfl⟩) rfl rfl (Nat.le_of_ble_eq_true rfl) (Nat.le_trans (Nat.le_of_ble_eq_true rfl : 3 + 1 ≤ 7) hD) (S_B_beneathByMetres hfl (Nat.le_refl _) h5 v2 v6)) (fun v8 h7 => ?_))
  exact y_retIX d_F_blocksBeneath_21 rfl rfl
noncomputable def P_F_blocksBeneathByBlocks (Θ : mW) (N : Nat) (h : mH) (a0 : Nat) (a1 : Int32) : Option ((Int32 ⊕ Nat) × mH) :=
  (bo (rA Θ h 0 a0 0) (fun v1 => (bo (rA Θ h 1 v1 1) (fun v2 => (bo (rA Θ h 0 a0 0) (fun v3 => (bo (rA Θ h 1 v3 0) (fun v4 => (gO Θ h 2 v4 (bx (P_L_known Θ N h v4 a1) (fun v6 h5 => (gO Θ h5 4 v2 (bc (P_B_beneathByBlocks Θ N h5 v2 v6) (fun v8 h7 => (some (.inl v8, h7)))))) (fun n9 h9 => xp n9 h9)))))))))))
theorem S_F_blocksBeneathByBlocks (hfl : HF l Θ) (hD : 7 ≤ d) (h : mH) (a0 : Nat) (a1 : Int32) : mMs l Θ d M_F_blocksBeneathByBlocks [.ref a0, .int a1] h (tX vI) (P_F_blocksBeneathByBlocks Θ N h a0 a1) := by
  refine mMs.of hfl (by decide +kernel) rfl (Nat.le_of_ble_eq_true rfl) (loc := [some (.ref a0), some (.int a1)]) rfl ?_
  unfold P_F_blocksBeneathByBlocks
  refine y_aload_n d_F_blocksBeneathByBlocks_0 rfl ?_
  refine y_getA d_F_blocksBeneathByBlocks_1 f_F_10 (fun v1 => ?_)
  refine y_getA d_F_blocksBeneathByBlocks_4 f_F_194 (fun v2 => ?_)
  refine y_aload_n d_F_blocksBeneathByBlocks_7 rfl ?_
  refine y_getA d_F_blocksBeneathByBlocks_8 f_F_10 (fun v3 => ?_)
  refine y_getA d_F_blocksBeneathByBlocks_11 f_F_67 (fun v4 => ?_)
  refine y_iload_n d_F_blocksBeneathByBlocks_14 rfl ?_
  refine y_gO (fun fs1 g1 => y_xA (c_vi (rest := [.ref v2]) d_F_blocksBeneathByBlocks_15 k_L_known s_F_114 (Or.inl ⟨_, _, _, g1, rfl, rfl⟩) rfl rfl (Nat.le_of_ble_eq_true rfl) (Nat.le_trans (Nat.le_of_ble_eq_true rfl : 6 + 1 ≤ 7) hD) (S_L_known hfl (Nat.le_refl _) h v4 a1)) (fun v6 h5 => ?_) (fun _ _ => y_hp rfl))
  refine y_gO (fun fs1 g1 => y_cI (c_vi (rest := []) d_F_blocksBeneathByBlocks_18 k_B_beneathByBlocks s_F_205 (Or.inl ⟨_, _, _, g1, rfl, rfl⟩) rfl rfl (Nat.le_of_ble_eq_true rfl) (Nat.le_trans (Nat.le_of_ble_eq_true rfl : 2 + 1 ≤ 7) hD) (S_B_beneathByBlocks hfl (Nat.le_refl _) h5 v2 v6)) (fun v8 h7 => ?_))
  exact y_retIX d_F_blocksBeneathByBlocks_21 rfl rfl
noncomputable def P_F_freeMetres (Θ : mW) (N : Nat) (h : mH) (a0 : Nat) : Option (Int32 × mH) :=
  (bo (rA Θ h 0 a0 0) (fun v1 => (bo (rA Θ h 1 v1 0) (fun v2 => (gO Θ h 2 v2 (bc (P_L_takenMetres Θ N h v2) (fun v4 h3 => (some (((J 60) - v4), h3)))))))))
theorem S_F_freeMetres (hfl : HF l Θ) (hD : 3 ≤ d) (h : mH) (a0 : Nat) : mMs l Θ d M_F_freeMetres [.ref a0] h (tR vI) (P_F_freeMetres Θ N h a0) := by
  refine mMs.of hfl (by decide +kernel) rfl (Nat.le_of_ble_eq_true rfl) (loc := [some (.ref a0)]) rfl ?_
  unfold P_F_freeMetres
  refine y_bipush (v := (J 60)) d_F_freeMetres_0 (by decide +kernel) ?_
  refine y_aload_n d_F_freeMetres_2 rfl ?_
  refine y_getA d_F_freeMetres_3 f_F_10 (fun v1 => ?_)
  refine y_getA d_F_freeMetres_6 f_F_67 (fun v2 => ?_)
  refine y_gO (fun fs1 g1 => y_cI (c_vi (rest := [.int (J 60)]) d_F_freeMetres_9 k_L_takenMetres s_F_226 (Or.inl ⟨_, _, _, g1, rfl, rfl⟩) rfl rfl (Nat.le_of_ble_eq_true rfl) (Nat.le_trans (Nat.le_of_ble_eq_true rfl : 2 + 1 ≤ 3) hD) (S_L_takenMetres hfl (Nat.le_refl _) h v2)) (fun v4 h3 => ?_))
  refine y_isub (v := ((J 60) - v4)) d_F_freeMetres_12 rfl ?_
  exact y_retI d_F_freeMetres_13 rfl rfl
noncomputable def P_F_takenShare (Θ : mW) (N : Nat) (h : mH) (a0 : Nat) : Option (UInt32 × mH) :=
  (bo (rA Θ h 0 a0 0) (fun v1 => (bo (rA Θ h 1 v1 0) (fun v2 => (gO Θ h 2 v2 (bc (P_L_takenMetres Θ N h v2) (fun v4 h3 => (if (FP.fdiv (FP.i2f v4) (1114636288 : UInt32)) &&& 0x7fffffff ≤ 0x7f800000 then (some ((FP.fdiv (FP.i2f v4) (1114636288 : UInt32)), h3)) else none))))))))
theorem S_F_takenShare (hfl : HF l Θ) (hD : 3 ≤ d) (h : mH) (a0 : Nat) : mMs l Θ d M_F_takenShare [.ref a0] h (tR vF) (P_F_takenShare Θ N h a0) := by
  refine mMs.of hfl (by decide +kernel) rfl (Nat.le_of_ble_eq_true rfl) (loc := [some (.ref a0)]) rfl ?_
  unfold P_F_takenShare
  refine y_aload_n d_F_takenShare_0 rfl ?_
  refine y_getA d_F_takenShare_1 f_F_10 (fun v1 => ?_)
  refine y_getA d_F_takenShare_4 f_F_67 (fun v2 => ?_)
  refine y_gO (fun fs1 g1 => y_cI (c_vi (rest := []) d_F_takenShare_7 k_L_takenMetres s_F_226 (Or.inl ⟨_, _, _, g1, rfl, rfl⟩) rfl rfl (Nat.le_of_ble_eq_true rfl) (Nat.le_trans (Nat.le_of_ble_eq_true rfl : 2 + 1 ≤ 3) hD) (S_L_takenMetres hfl (Nat.le_refl _) h v2)) (fun v4 h3 => ?_))
  refine y_i2f d_F_takenShare_10 ?_
  refine y_ldcfw d_F_takenShare_11 l_F_330 ?_
  refine y_gd (fun hn => y_fdiv d_F_takenShare_14 hn ?_)
  exact y_retF d_F_takenShare_15 rfl
noncomputable def B_F_describeDock_10 (Θ : mW) (N : Nat) (K38 : mH → Option (Int32 × mH)) (f0_ : Nat) (rc : mH → Int32 → Option (Int32 × mH)) (h : mH) (v1_ : Int32) : Option (Int32 × mH) :=
  (if (J 60) ≤ v1_ then (K38 h) else (bo (rA Θ h 0 f0_ 7) (fun v4 => (bo (rA Θ h 0 f0_ 0) (fun v5 => (gO Θ h 1 v5 (bc (P_D_signAt Θ N h v5 v1_) (fun v7 h6 => (gO Θ h6 8 v4 (bc (P_SB_append_C Θ N h6 v4 v7) (fun v9 h8 => (rc h8 (v1_ + (J 1))))))))))))))
noncomputable def P_F_describeDock_10 (Θ : mW) (N : Nat) (K38 : mH → Option (Int32 × mH)) (f0_ : Nat) : Nat → mH → Int32 → Option (Int32 × mH) :=
  lp (fun _ _ => none) (B_F_describeDock_10 Θ N K38 f0_)
noncomputable def P_F_describeDock (Θ : mW) (N : Nat) (h : mH) (a0 : Nat) : Option (Int32 × mH) :=
  (bo (rA Θ h 0 a0 7) (fun v1 => (gO Θ h 8 v1 (bc (P_SB_setLength Θ N h v1 (J 0)) (fun v3 h2 => (P_F_describeDock_10 Θ N (fun h10 => (bo (rA Θ h10 0 a0 7) (fun v11 => (gO Θ h10 8 v11 (bc (P_SB_length Θ N h10 v11) (fun v13 h12 => (some (v13, h12)))))))) a0 N h2 (J 0)))))))
theorem SB_F_describeDock_10 (hfl : HF l Θ) (hD : 6 ≤ d) {K38 : mH → Option (Int32 × mH)} {f0_ : Nat}  (hK38 : ∀ (h : mH), mY l Θ d M_F_describeDock 38 [some (.ref f0_), none] [] h (tR vI) (K38 h)) (rc : mH → Int32 → Option (Int32 × mH)) (ih : ∀ (h : mH) (v1_ : Int32), mY l Θ d M_F_describeDock 10 [some (.ref f0_), some (.int v1_)] [] h (tR vI) (rc h v1_)) : ∀ (h : mH) (v1_ : Int32), mY l Θ d M_F_describeDock 10 [some (.ref f0_), some (.int v1_)] [] h (tR vI) (B_F_describeDock_10 Θ N K38 f0_ rc h v1_) := by
  intro h v1_
  unfold B_F_describeDock_10
  refine y_iload_n d_F_describeDock_10 rfl ?_
  refine y_bipush (v := (J 60)) d_F_describeDock_11 (by decide +kernel) ?_
  refine y_icmp_ge (tgt := 38) d_F_describeDock_13 (by decide) ?_ ?_
  · exact y_wk (loc2 := [some (.ref f0_), none]) ⟨rfl, trivial⟩ (hK38 h)
  · refine y_aload_n d_F_describeDock_16 rfl ?_
    refine y_getA d_F_describeDock_17 f_F_50 (fun v4 => ?_)
    refine y_aload_n d_F_describeDock_20 rfl ?_
    refine y_getA d_F_describeDock_21 f_F_10 (fun v5 => ?_)
    refine y_iload_n d_F_describeDock_24 rfl ?_
    refine y_gO (fun fs1 g1 => y_cI (c_vi (rest := [.ref v4]) d_F_describeDock_25 k_D_signAt s_F_303 (Or.inl ⟨_, _, _, g1, rfl, rfl⟩) rfl rfl (Nat.le_of_ble_eq_true rfl) (Nat.le_trans (Nat.le_of_ble_eq_true rfl : 3 + 1 ≤ 6) hD) (S_D_signAt hfl (Nat.le_refl _) h v5 v1_)) (fun v7 h6 => ?_))
    refine y_gO (fun fs1 g1 => y_cA (c_vi (rest := []) d_F_describeDock_28 k_SB_append_C s_F_307 (Or.inl ⟨_, _, _, g1, rfl, rfl⟩) rfl rfl (Nat.le_of_ble_eq_true rfl) (Nat.le_trans (Nat.le_of_ble_eq_true rfl : 5 + 1 ≤ 6) hD) (S_SB_append_C hfl (Nat.le_refl _) h6 v4 v7)) (fun v9 h8 => ?_))
    refine y_pop d_F_describeDock_31 rfl ?_
    refine y_iinc (v := (v1_ + (J 1))) (loc2 := [some (.ref f0_), some (.int (v1_ + (J 1)))]) d_F_describeDock_32 rfl rfl (Nat.le_of_ble_eq_true rfl) rfl rfl ?_
    refine y_goto (tgt := 10) d_F_describeDock_35 (by decide) ?_
    exact ih h8 (v1_ + (J 1))
theorem S_F_describeDock_10 (hfl : HF l Θ) (hD : 6 ≤ d) {K38 : mH → Option (Int32 × mH)} {f0_ : Nat}  (hK38 : ∀ (h : mH), mY l Θ d M_F_describeDock 38 [some (.ref f0_), none] [] h (tR vI) (K38 h)) : ∀ (n : Nat) (h : mH) (v1_ : Int32), mY l Θ d M_F_describeDock 10 [some (.ref f0_), some (.int v1_)] [] h (tR vI) (P_F_describeDock_10 Θ N K38 f0_ n h v1_) :=
  fun n => lp_all (C := fun (rc : mH → Int32 → Option (Int32 × mH)) => ∀ (h : mH) (v1_ : Int32), mY l Θ d M_F_describeDock 10 [some (.ref f0_), some (.int v1_)] [] h (tR vI) (rc h v1_)) (fun _ _ => y_none) (fun rc ih => SB_F_describeDock_10 hfl hD hK38 rc ih) n
theorem S_F_describeDock (hfl : HF l Θ) (hD : 6 ≤ d) (h : mH) (a0 : Nat) : mMs l Θ d M_F_describeDock [.ref a0] h (tR vI) (P_F_describeDock Θ N h a0) := by
  refine mMs.of hfl (by decide +kernel) rfl (Nat.le_of_ble_eq_true rfl) (loc := [some (.ref a0), none]) rfl ?_
  unfold P_F_describeDock
  refine y_aload_n d_F_describeDock_0 rfl ?_
  refine y_getA d_F_describeDock_1 f_F_50 (fun v1 => ?_)
  refine y_iconst (v := (J 0)) d_F_describeDock_4 rfl ?_
  refine y_gO (fun fs1 g1 => y_cU (c_vi (rest := []) d_F_describeDock_5 k_SB_setLength s_F_300 (Or.inl ⟨_, _, _, g1, rfl, rfl⟩) rfl rfl (Nat.le_of_ble_eq_true rfl) (Nat.le_trans (Nat.le_of_ble_eq_true rfl : 5 + 1 ≤ 6) hD) (S_SB_setLength hfl (Nat.le_refl _) h v1 (J 0))) (fun v3 h2 => ?_))
  refine y_iconst (v := (J 0)) d_F_describeDock_8 rfl ?_
  refine y_istore_n (loc2 := [some (.ref a0), some (.int (J 0))]) d_F_describeDock_9 (Nat.le_of_ble_eq_true rfl) rfl rfl ?_
  refine S_F_describeDock_10 hfl hD (fun h10 => ?_) N h2 (J 0)
  refine y_aload_n d_F_describeDock_38 rfl ?_
  refine y_getA d_F_describeDock_39 f_F_50 (fun v11 => ?_)
  refine y_gO (fun fs1 g1 => y_cI (c_vi (rest := []) d_F_describeDock_42 k_SB_length s_F_311 (Or.inl ⟨_, _, _, g1, rfl, rfl⟩) rfl rfl (Nat.le_of_ble_eq_true rfl) (Nat.le_trans (Nat.le_of_ble_eq_true rfl : 2 + 1 ≤ 6) hD) (S_SB_length hfl (Nat.le_refl _) h10 v11)) (fun v13 h12 => ?_))
  exact y_retI d_F_describeDock_45 rfl rfl
noncomputable def P_F_lineAt (Θ : mW) (N : Nat) (h : mH) (a0 : Nat) (a1 : Int32) : Option ((Int32 ⊕ Nat) × mH) :=
  (if a1 < 0 then (xp 14 (h ++ [oB 14 []])) else (bo (rA Θ h 0 a0 7) (fun v1 => (gO Θ h 8 v1 (bc (P_SB_length Θ N h v1) (fun v3 h2 => (if a1 < v3 then (bo (rA Θ h2 0 a0 7) (fun v4 => (gO Θ h2 8 v4 (bc (P_SB_charAt Θ N h2 v4 a1) (fun v6 h5 => (if 0 ≤ v6 ∧ v6 ≤ 65535 then some (.inl v6, h5) else none)))))) else (xp 14 (h2 ++ [oB 14 []])))))))))
theorem S_F_lineAt (hfl : HF l Θ) (hD : 6 ≤ d) (h : mH) (a0 : Nat) (a1 : Int32) : mMs l Θ d M_F_lineAt [.ref a0, .int a1] h (tX vI) (P_F_lineAt Θ N h a0 a1) := by
  refine mMs.of hfl (by decide +kernel) rfl (Nat.le_of_ble_eq_true rfl) (loc := [some (.ref a0), some (.int a1)]) rfl ?_
  unfold P_F_lineAt
  refine y_iload_n d_F_lineAt_0 rfl ?_
  refine y_if_lt (tgt := 15) d_F_lineAt_1 (by decide) ?_ ?_
  · exact y_throwW rfl d_F_lineAt_15 d_F_lineAt_18 d_F_lineAt_19 d_F_lineAt_22 d_F_lineAt_25 mExc_14 y_F_98 x_F_102 (List.mem_of_getElem? (i := 36) rfl) (Nat.le_of_ble_eq_true rfl) (Nat.le_trans (Nat.le_of_ble_eq_true rfl) hD)
  · refine y_iload_n d_F_lineAt_4 rfl ?_
    refine y_aload_n d_F_lineAt_5 rfl ?_
    refine y_getA d_F_lineAt_6 f_F_50 (fun v1 => ?_)
    refine y_gO (fun fs1 g1 => y_cI (c_vi (rest := [.int a1]) d_F_lineAt_9 k_SB_length s_F_311 (Or.inl ⟨_, _, _, g1, rfl, rfl⟩) rfl rfl (Nat.le_of_ble_eq_true rfl) (Nat.le_trans (Nat.le_of_ble_eq_true rfl : 2 + 1 ≤ 6) hD) (S_SB_length hfl (Nat.le_refl _) h v1)) (fun v3 h2 => ?_))
    refine y_icmp_lt (tgt := 26) d_F_lineAt_12 (by decide) ?_ ?_
    · refine y_aload_n d_F_lineAt_26 rfl ?_
      refine y_getA d_F_lineAt_27 f_F_50 (fun v4 => ?_)
      refine y_iload_n d_F_lineAt_30 rfl ?_
      refine y_gO (fun fs1 g1 => y_cI (c_vi (rest := []) d_F_lineAt_31 k_SB_charAt s_F_319 (Or.inl ⟨_, _, _, g1, rfl, rfl⟩) rfl rfl (Nat.le_of_ble_eq_true rfl) (Nat.le_trans (Nat.le_of_ble_eq_true rfl : 4 + 1 ≤ 6) hD) (S_SB_charAt hfl (Nat.le_refl _) h2 v4 a1)) (fun v6 h5 => ?_))
      exact y_gC (fun hn => y_retIX d_F_lineAt_34 rfl hn)
    · exact y_throwW rfl d_F_lineAt_15 d_F_lineAt_18 d_F_lineAt_19 d_F_lineAt_22 d_F_lineAt_25 mExc_14 y_F_98 x_F_102 (List.mem_of_getElem? (i := 36) rfl) (Nat.le_of_ble_eq_true rfl) (Nat.le_trans (Nat.le_of_ble_eq_true rfl) hD)
noncomputable def P_F_isAfloat (Θ : mW) (N : Nat) (h : mH) (a0 : Nat) (a1 : Int32) : Option ((Int32 ⊕ Nat) × mH) :=
  (bo (rA Θ h 0 a0 0) (fun v1 => (bo (rA Θ h 1 v1 0) (fun v2 => (gO Θ h 2 v2 (bx (P_L_known Θ N h v2 a1) (fun v4 h3 => (bo (rA Θ h3 0 a0 0) (fun v5 => (bo (rI Θ h3 1 v5 2) (fun v6 => (gO Θ h3 3 v4 (bc (P_S_floatsAt Θ N h3 v4 v6) (fun v8 h7 => (if v8 = J 0 ∨ v8 = J 1 then some (.inl v8, h7) else none))))))))) (fun n9 h9 => xp n9 h9)))))))
theorem S_F_isAfloat (hfl : HF l Θ) (hD : 7 ≤ d) (h : mH) (a0 : Nat) (a1 : Int32) : mMs l Θ d M_F_isAfloat [.ref a0, .int a1] h (tX vI) (P_F_isAfloat Θ N h a0 a1) := by
  refine mMs.of hfl (by decide +kernel) rfl (Nat.le_of_ble_eq_true rfl) (loc := [some (.ref a0), some (.int a1)]) rfl ?_
  unfold P_F_isAfloat
  refine y_aload_n d_F_isAfloat_0 rfl ?_
  refine y_getA d_F_isAfloat_1 f_F_10 (fun v1 => ?_)
  refine y_getA d_F_isAfloat_4 f_F_67 (fun v2 => ?_)
  refine y_iload_n d_F_isAfloat_7 rfl ?_
  refine y_gO (fun fs1 g1 => y_xA (c_vi (rest := []) d_F_isAfloat_8 k_L_known s_F_114 (Or.inl ⟨_, _, _, g1, rfl, rfl⟩) rfl rfl (Nat.le_of_ble_eq_true rfl) (Nat.le_trans (Nat.le_of_ble_eq_true rfl : 6 + 1 ≤ 7) hD) (S_L_known hfl (Nat.le_refl _) h v2 a1)) (fun v4 h3 => ?_) (fun _ _ => y_hp rfl))
  refine y_aload_n d_F_isAfloat_11 rfl ?_
  refine y_getA d_F_isAfloat_12 f_F_10 (fun v5 => ?_)
  refine y_getI d_F_isAfloat_15 f_F_137 (fun v6 => ?_)
  refine y_gO (fun fs1 g1 => y_cI (c_vi (rest := []) d_F_isAfloat_18 k_S_floatsAt s_F_140 (Or.inl ⟨_, _, _, g1, rfl, rfl⟩) rfl rfl (Nat.le_of_ble_eq_true rfl) (Nat.le_trans (Nat.le_of_ble_eq_true rfl : 2 + 1 ≤ 7) hD) (S_S_floatsAt hfl (Nat.le_refl _) h3 v4 v6)) (fun v8 h7 => ?_))
  exact y_gZ (fun hn _ => y_retIX d_F_isAfloat_21 rfl hn)
noncomputable def P_F_damageOf (Θ : mW) (N : Nat) (h : mH) (a0 : Nat) (a1 : Int32) : Option ((Int32 ⊕ Nat) × mH) :=
  (bo (rA Θ h 0 a0 0) (fun v1 => (bo (rA Θ h 1 v1 0) (fun v2 => (gO Θ h 2 v2 (bx (P_L_known Θ N h v2 a1) (fun v4 h3 => (bo (rI Θ h3 3 v4 4) (fun v5 => (some (.inl v5, h3))))) (fun n9 h9 => xp n9 h9)))))))
theorem S_F_damageOf (hfl : HF l Θ) (hD : 7 ≤ d) (h : mH) (a0 : Nat) (a1 : Int32) : mMs l Θ d M_F_damageOf [.ref a0, .int a1] h (tX vI) (P_F_damageOf Θ N h a0 a1) := by
  refine mMs.of hfl (by decide +kernel) rfl (Nat.le_of_ble_eq_true rfl) (loc := [some (.ref a0), some (.int a1)]) rfl ?_
  unfold P_F_damageOf
  refine y_aload_n d_F_damageOf_0 rfl ?_
  refine y_getA d_F_damageOf_1 f_F_10 (fun v1 => ?_)
  refine y_getA d_F_damageOf_4 f_F_67 (fun v2 => ?_)
  refine y_iload_n d_F_damageOf_7 rfl ?_
  refine y_gO (fun fs1 g1 => y_xA (c_vi (rest := []) d_F_damageOf_8 k_L_known s_F_114 (Or.inl ⟨_, _, _, g1, rfl, rfl⟩) rfl rfl (Nat.le_of_ble_eq_true rfl) (Nat.le_trans (Nat.le_of_ble_eq_true rfl : 6 + 1 ≤ 7) hD) (S_L_known hfl (Nat.le_refl _) h v2 a1)) (fun v4 h3 => ?_) (fun _ _ => y_hp rfl))
  refine y_getI d_F_damageOf_11 f_F_131 (fun v5 => ?_)
  exact y_retIX d_F_damageOf_14 rfl rfl
noncomputable def P_F_isInDock (Θ : mW) (N : Nat) (h : mH) (a0 : Nat) (a1 : Int32) : Option ((Int32 ⊕ Nat) × mH) :=
  (bo (rA Θ h 0 a0 0) (fun v1 => (bo (rA Θ h 1 v1 0) (fun v2 => (gO Θ h 2 v2 (bx (P_L_known Θ N h v2 a1) (fun v4 h3 => (gO Θ h3 3 v4 (bc (P_S_isDocked Θ N h3 v4) (fun v6 h5 => (if v6 = J 0 ∨ v6 = J 1 then some (.inl v6, h5) else none))))) (fun n9 h9 => xp n9 h9)))))))
theorem S_F_isInDock (hfl : HF l Θ) (hD : 7 ≤ d) (h : mH) (a0 : Nat) (a1 : Int32) : mMs l Θ d M_F_isInDock [.ref a0, .int a1] h (tX vI) (P_F_isInDock Θ N h a0 a1) := by
  refine mMs.of hfl (by decide +kernel) rfl (Nat.le_of_ble_eq_true rfl) (loc := [some (.ref a0), some (.int a1)]) rfl ?_
  unfold P_F_isInDock
  refine y_aload_n d_F_isInDock_0 rfl ?_
  refine y_getA d_F_isInDock_1 f_F_10 (fun v1 => ?_)
  refine y_getA d_F_isInDock_4 f_F_67 (fun v2 => ?_)
  refine y_iload_n d_F_isInDock_7 rfl ?_
  refine y_gO (fun fs1 g1 => y_xA (c_vi (rest := []) d_F_isInDock_8 k_L_known s_F_114 (Or.inl ⟨_, _, _, g1, rfl, rfl⟩) rfl rfl (Nat.le_of_ble_eq_true rfl) (Nat.le_trans (Nat.le_of_ble_eq_true rfl : 6 + 1 ≤ 7) hD) (S_L_known hfl (Nat.le_refl _) h v2 a1)) (fun v4 h3 => ?_) (fun _ _ => y_hp rfl))
  refine y_gO (fun fs1 g1 => y_cI (c_vi (rest := []) d_F_isInDock_11 k_S_isDocked s_F_118 (Or.inl ⟨_, _, _, g1, rfl, rfl⟩) rfl rfl (Nat.le_of_ble_eq_true rfl) (Nat.le_trans (Nat.le_of_ble_eq_true rfl : 1 + 1 ≤ 7) hD) (S_S_isDocked hfl (Nat.le_refl _) h3 v4)) (fun v6 h5 => ?_))
  exact y_gZ (fun hn _ => y_retIX d_F_isInDock_14 rfl hn)
noncomputable def P_F_describeBill (Θ : mW) (N : Nat) (h : mH) (a0 : Nat) (a1 : Int32) : Option ((Int32 ⊕ Nat) × mH) :=
  (bo (rA Θ h 0 a0 0) (fun v1 => (bo (rA Θ h 1 v1 0) (fun v2 => (gO Θ h 2 v2 (bx (P_L_known Θ N h v2 a1) (fun v4 h3 => (bo (rA Θ h3 0 a0 7) (fun v5 => (gO Θ h3 8 v5 (bc (P_SB_setLength Θ N h3 v5 (J 0)) (fun v7 h6 => (bo (rA Θ h6 0 a0 7) (fun v8 => (gO Θ h6 8 v8 (bc (P_SB_append_C Θ N h6 v8 (J 35)) (fun v10 h9 => (bo (rI Θ h9 3 v4 0) (fun v11 => (gO Θ h9 8 v10 (bc (P_SB_append_I Θ N h9 v10 v11) (fun v13 h12 => (bo (rA Θ h12 0 a0 7) (fun v14 => (gO Θ h12 8 v14 (bc (P_SB_append_C Θ N h12 v14 (J 58)) (fun v16 h15 => (bo (rI Θ h15 3 v4 6) (fun v17 => (gO Θ h15 8 v16 (bc (P_SB_append_I Θ N h15 v16 v17) (fun v19 h18 => (bo (rA Θ h18 0 a0 7) (fun v20 => (gO Θ h18 8 v20 (bc (P_SB_append_C Θ N h18 v20 (J 47)) (fun v22 h21 => (bo (rI Θ h21 3 v4 3) (fun v23 => (gO Θ h21 8 v22 (bc (P_SB_append_I Θ N h21 v22 v23) (fun v25 h24 => (bo (rI Θ h24 3 v4 4) (fun v26 => (jn (fun (h28 : mH) => (gO Θ h28 3 v4 (bc (P_S_isDocked Θ N h28 v4) (fun v30 h29 => (jn (fun (h32 : mH) => (bo (rA Θ h32 0 a0 7) (fun v33 => (gO Θ h32 8 v33 (bc (P_SB_length Θ N h32 v33) (fun v35 h34 => (some (.inl v35, h34)))))))) (fun j31 => (if v30 = 0 then (j31 h29) else (bo (rA Θ h29 0 a0 7) (fun v36 => (bo (rA Θ h29 0 a0 0) (fun v37 => (bo (rI Θ h29 1 v37 2) (fun v38 => (gO Θ h29 3 v4 (bc (P_S_floatsAt Θ N h29 v4 v38) (fun v40 h39 => (jn (fun (h42 : mH) (s43 : Int32) => (gO Θ h42 8 v36 (bc (P_SB_append_C Θ N h42 v36 s43) (fun v45 h44 => (j31 h44))))) (fun j41 => (if v40 = 0 then (j41 h39 (J 95)) else (j41 h39 (J 126))))))))))))))))))))) (fun j27 => (if v26 = 0 then (j27 h24) else (bo (rA Θ h24 0 a0 7) (fun v46 => (gO Θ h24 8 v46 (bc (P_SB_append_C Θ N h24 v46 (J 33)) (fun v48 h47 => (bo (rI Θ h47 3 v4 4) (fun v49 => (gO Θ h47 8 v48 (bc (P_SB_append_I Θ N h47 v48 v49) (fun v51 h50 => (j27 h50)))))))))))))))))))))))))))))))))))))))))))))))))))) (fun n9 h9 => xp n9 h9)))))))
theorem S_F_describeBill (hfl : HF l Θ) (hD : 7 ≤ d) (h : mH) (a0 : Nat) (a1 : Int32) : mMs l Θ d M_F_describeBill [.ref a0, .int a1] h (tX vI) (P_F_describeBill Θ N h a0 a1) := by
  refine mMs.of hfl (by decide +kernel) rfl (Nat.le_of_ble_eq_true rfl) (loc := [some (.ref a0), some (.int a1), none]) rfl ?_
  unfold P_F_describeBill
  refine y_aload_n d_F_describeBill_0 rfl ?_
  refine y_getA d_F_describeBill_1 f_F_10 (fun v1 => ?_)
  refine y_getA d_F_describeBill_4 f_F_67 (fun v2 => ?_)
  refine y_iload_n d_F_describeBill_7 rfl ?_
  refine y_gO (fun fs1 g1 => y_xA (c_vi (rest := []) d_F_describeBill_8 k_L_known s_F_114 (Or.inl ⟨_, _, _, g1, rfl, rfl⟩) rfl rfl (Nat.le_of_ble_eq_true rfl) (Nat.le_trans (Nat.le_of_ble_eq_true rfl : 6 + 1 ≤ 7) hD) (S_L_known hfl (Nat.le_refl _) h v2 a1)) (fun v4 h3 => ?_) (fun _ _ => y_hp rfl))
  refine y_astore_n (loc2 := [some (.ref a0), some (.int a1), some (.ref v4)]) d_F_describeBill_11 (Nat.le_of_ble_eq_true rfl) rfl rfl ?_
  refine y_aload_n d_F_describeBill_12 rfl ?_
  refine y_getA d_F_describeBill_13 f_F_50 (fun v5 => ?_)
  refine y_iconst (v := (J 0)) d_F_describeBill_16 rfl ?_
  refine y_gO (fun fs1 g1 => y_cU (c_vi (rest := []) d_F_describeBill_17 k_SB_setLength s_F_300 (Or.inl ⟨_, _, _, g1, rfl, rfl⟩) rfl rfl (Nat.le_of_ble_eq_true rfl) (Nat.le_trans (Nat.le_of_ble_eq_true rfl : 5 + 1 ≤ 7) hD) (S_SB_setLength hfl (Nat.le_refl _) h3 v5 (J 0))) (fun v7 h6 => ?_))
  refine y_aload_n d_F_describeBill_20 rfl ?_
  refine y_getA d_F_describeBill_21 f_F_50 (fun v8 => ?_)
  refine y_bipush (v := (J 35)) d_F_describeBill_24 (by decide +kernel) ?_
  refine y_gO (fun fs1 g1 => y_cA (c_vi (rest := []) d_F_describeBill_26 k_SB_append_C s_F_307 (Or.inl ⟨_, _, _, g1, rfl, rfl⟩) rfl rfl (Nat.le_of_ble_eq_true rfl) (Nat.le_trans (Nat.le_of_ble_eq_true rfl : 5 + 1 ≤ 7) hD) (S_SB_append_C hfl (Nat.le_refl _) h6 v8 (J 35))) (fun v10 h9 => ?_))
  refine y_aload_n d_F_describeBill_29 rfl ?_
  refine y_getI d_F_describeBill_30 f_F_109 (fun v11 => ?_)
  refine y_gO (fun fs1 g1 => y_cA (c_vi (rest := []) d_F_describeBill_33 k_SB_append_I s_F_314 (Or.inl ⟨_, _, _, g1, rfl, rfl⟩) rfl rfl (Nat.le_of_ble_eq_true rfl) (Nat.le_trans (Nat.le_of_ble_eq_true rfl : 5 + 1 ≤ 7) hD) (S_SB_append_I hfl (Nat.le_refl _) h9 v10 v11)) (fun v13 h12 => ?_))
  refine y_pop d_F_describeBill_36 rfl ?_
  refine y_aload_n d_F_describeBill_37 rfl ?_
  refine y_getA d_F_describeBill_38 f_F_50 (fun v14 => ?_)
  refine y_bipush (v := (J 58)) d_F_describeBill_41 (by decide +kernel) ?_
  refine y_gO (fun fs1 g1 => y_cA (c_vi (rest := []) d_F_describeBill_43 k_SB_append_C s_F_307 (Or.inl ⟨_, _, _, g1, rfl, rfl⟩) rfl rfl (Nat.le_of_ble_eq_true rfl) (Nat.le_trans (Nat.le_of_ble_eq_true rfl : 5 + 1 ≤ 7) hD) (S_SB_append_C hfl (Nat.le_refl _) h12 v14 (J 58))) (fun v16 h15 => ?_))
  refine y_aload_n d_F_describeBill_46 rfl ?_
  refine y_getI d_F_describeBill_47 f_F_240 (fun v17 => ?_)
  refine y_gO (fun fs1 g1 => y_cA (c_vi (rest := []) d_F_describeBill_50 k_SB_append_I s_F_314 (Or.inl ⟨_, _, _, g1, rfl, rfl⟩) rfl rfl (Nat.le_of_ble_eq_true rfl) (Nat.le_trans (Nat.le_of_ble_eq_true rfl : 5 + 1 ≤ 7) hD) (S_SB_append_I hfl (Nat.le_refl _) h15 v16 v17)) (fun v19 h18 => ?_))
  refine y_pop d_F_describeBill_53 rfl ?_
  refine y_aload_n d_F_describeBill_54 rfl ?_
  refine y_getA d_F_describeBill_55 f_F_50 (fun v20 => ?_)
  refine y_bipush (v := (J 47)) d_F_describeBill_58 (by decide +kernel) ?_
  refine y_gO (fun fs1 g1 => y_cA (c_vi (rest := []) d_F_describeBill_60 k_SB_append_C s_F_307 (Or.inl ⟨_, _, _, g1, rfl, rfl⟩) rfl rfl (Nat.le_of_ble_eq_true rfl) (Nat.le_trans (Nat.le_of_ble_eq_true rfl : 5 + 1 ≤ 7) hD) (S_SB_append_C hfl (Nat.le_refl _) h18 v20 (J 47))) (fun v22 h21 => ?_))
  refine y_aload_n d_F_describeBill_63 rfl ?_
  refine y_getI d_F_describeBill_64 f_F_128 (fun v23 => ?_)
  refine y_gO (fun fs1 g1 => y_cA (c_vi (rest := []) d_F_describeBill_67 k_SB_append_I s_F_314 (Or.inl ⟨_, _, _, g1, rfl, rfl⟩) rfl rfl (Nat.le_of_ble_eq_true rfl) (Nat.le_trans (Nat.le_of_ble_eq_true rfl : 5 + 1 ≤ 7) hD) (S_SB_append_I hfl (Nat.le_refl _) h21 v22 v23)) (fun v25 h24 => ?_))
  refine y_pop d_F_describeBill_70 rfl ?_
  refine y_aload_n d_F_describeBill_71 rfl ?_
  refine y_getI d_F_describeBill_72 f_F_131 (fun v26 => ?_)
  refine y_jn (C := fun (j9 : mH → Option ((Int32 ⊕ Nat) × mH)) => ∀ (h28 : mH), mY l Θ d M_F_describeBill 95 [some (.ref a0), none, some (.ref v4)] [] h28 (tX vI) (j9 h28)) (fun h28 => ?_) (fun j27 Hj27 => ?_)
  · refine y_aload_n d_F_describeBill_95 rfl ?_
    refine y_gO (fun fs1 g1 => y_cI (c_vi (rest := []) d_F_describeBill_96 k_S_isDocked s_F_118 (Or.inl ⟨_, _, _, g1, rfl, rfl⟩) rfl rfl (Nat.le_of_ble_eq_true rfl) (Nat.le_trans (Nat.le_of_ble_eq_true rfl : 1 + 1 ≤ 7) hD) (S_S_isDocked hfl (Nat.le_refl _) h28 v4)) (fun v30 h29 => ?_))
    refine y_jn (C := fun (j9 : mH → Option ((Int32 ⊕ Nat) × mH)) => ∀ (h32 : mH), mY l Θ d M_F_describeBill 131 [some (.ref a0), none, none] [] h32 (tX vI) (j9 h32)) (fun h32 => ?_) (fun j31 Hj31 => ?_)
    · refine y_aload_n d_F_describeBill_131 rfl ?_
      refine y_getA d_F_describeBill_132 f_F_50 (fun v33 => ?_)
      refine y_gO (fun fs1 g1 => y_cI (c_vi (rest := []) d_F_describeBill_135 k_SB_length s_F_311 (Or.inl ⟨_, _, _, g1, rfl, rfl⟩) rfl rfl (Nat.le_of_ble_eq_true rfl) (Nat.le_trans (Nat.le_of_ble_eq_true rfl : 2 + 1 ≤ 7) hD) (S_SB_length hfl (Nat.le_refl _) h32 v33)) (fun v35 h34 => ?_))
      exact y_retIX d_F_describeBill_138 rfl rfl
    · refine y_if_eq (tgt := 131) d_F_describeBill_99 (by decide) ?_ ?_
      · exact y_wk (loc2 := [some (.ref a0), none, none]) ⟨rfl, trivial⟩ (Hj31 h29)
      · refine y_aload_n d_F_describeBill_102 rfl ?_
        refine y_getA d_F_describeBill_103 f_F_50 (fun v36 => ?_)
        refine y_aload_n d_F_describeBill_106 rfl ?_
        refine y_aload_n d_F_describeBill_107 rfl ?_
        refine y_getA d_F_describeBill_108 f_F_10 (fun v37 => ?_)
        refine y_getI d_F_describeBill_111 f_F_137 (fun v38 => ?_)
        refine y_gO (fun fs1 g1 => y_cI (c_vi (rest := [.ref v36]) d_F_describeBill_114 k_S_floatsAt s_F_140 (Or.inl ⟨_, _, _, g1, rfl, rfl⟩) rfl rfl (Nat.le_of_ble_eq_true rfl) (Nat.le_trans (Nat.le_of_ble_eq_true rfl : 2 + 1 ≤ 7) hD) (S_S_floatsAt hfl (Nat.le_refl _) h29 v4 v38)) (fun v40 h39 => ?_))
        refine y_jn (C := fun (j9 : mH → Int32 → Option ((Int32 ⊕ Nat) × mH)) => ∀ (h42 : mH) (s43 : Int32), mY l Θ d M_F_describeBill 127 [some (.ref a0), none, none] [.int s43, .ref v36] h42 (tX vI) (j9 h42 s43)) (fun h42 s43 => ?_) (fun j41 Hj41 => ?_)
        · refine y_gO (fun fs1 g1 => y_cA (c_vi (rest := []) d_F_describeBill_127 k_SB_append_C s_F_307 (Or.inl ⟨_, _, _, g1, rfl, rfl⟩) rfl rfl (Nat.le_of_ble_eq_true rfl) (Nat.le_trans (Nat.le_of_ble_eq_true rfl : 5 + 1 ≤ 7) hD) (S_SB_append_C hfl (Nat.le_refl _) h42 v36 s43)) (fun v45 h44 => ?_))
          refine y_pop d_F_describeBill_130 rfl ?_
          exact Hj31 h44
        · refine y_if_eq (tgt := 125) d_F_describeBill_117 (by decide) ?_ ?_
          · refine y_bipush (v := (J 95)) d_F_describeBill_125 (by decide +kernel) ?_
            exact y_wk (loc2 := [some (.ref a0), none, none]) ⟨rfl, trivial⟩ (Hj41 h39 (J 95))
          · refine y_bipush (v := (J 126)) d_F_describeBill_120 (by decide +kernel) ?_
            refine y_goto (tgt := 127) d_F_describeBill_122 (by decide) ?_
            exact y_wk (loc2 := [some (.ref a0), none, none]) ⟨rfl, trivial⟩ (Hj41 h39 (J 126))
  · refine y_if_eq (tgt := 95) d_F_describeBill_75 (by decide) ?_ ?_
    · exact y_wk (loc2 := [some (.ref a0), none, some (.ref v4)]) ⟨rfl, ⟨rfl, trivial⟩⟩ (Hj27 h24)
    · refine y_aload_n d_F_describeBill_78 rfl ?_
      refine y_getA d_F_describeBill_79 f_F_50 (fun v46 => ?_)
      refine y_bipush (v := (J 33)) d_F_describeBill_82 (by decide +kernel) ?_
      refine y_gO (fun fs1 g1 => y_cA (c_vi (rest := []) d_F_describeBill_84 k_SB_append_C s_F_307 (Or.inl ⟨_, _, _, g1, rfl, rfl⟩) rfl rfl (Nat.le_of_ble_eq_true rfl) (Nat.le_trans (Nat.le_of_ble_eq_true rfl : 5 + 1 ≤ 7) hD) (S_SB_append_C hfl (Nat.le_refl _) h24 v46 (J 33))) (fun v48 h47 => ?_))
      refine y_aload_n d_F_describeBill_87 rfl ?_
      refine y_getI d_F_describeBill_88 f_F_131 (fun v49 => ?_)
      refine y_gO (fun fs1 g1 => y_cA (c_vi (rest := []) d_F_describeBill_91 k_SB_append_I s_F_314 (Or.inl ⟨_, _, _, g1, rfl, rfl⟩) rfl rfl (Nat.le_of_ble_eq_true rfl) (Nat.le_trans (Nat.le_of_ble_eq_true rfl : 5 + 1 ≤ 7) hD) (S_SB_append_I hfl (Nat.le_refl _) h47 v48 v49)) (fun v51 h50 => ?_))
      refine y_pop d_F_describeBill_94 rfl ?_
      exact y_wk (loc2 := [some (.ref a0), none, some (.ref v4)]) ⟨rfl, ⟨rfl, trivial⟩⟩ (Hj27 h50)
noncomputable def P_F_billTotal (Θ : mW) (N : Nat) (h : mH) (a0 : Nat) : Option (Int32 × mH) :=
  (bo (rA Θ h 0 a0 0) (fun v1 => (bo (rA Θ h 1 v1 0) (fun v2 => (gO Θ h 2 v2 (bc (P_L_billSum Θ N h v2) (fun v4 h3 => (some (v4, h3)))))))))
theorem S_F_billTotal (hfl : HF l Θ) (hD : 2 ≤ d) (h : mH) (a0 : Nat) : mMs l Θ d M_F_billTotal [.ref a0] h (tR vI) (P_F_billTotal Θ N h a0) := by
  refine mMs.of hfl (by decide +kernel) rfl (Nat.le_of_ble_eq_true rfl) (loc := [some (.ref a0)]) rfl ?_
  unfold P_F_billTotal
  refine y_aload_n d_F_billTotal_0 rfl ?_
  refine y_getA d_F_billTotal_1 f_F_10 (fun v1 => ?_)
  refine y_getA d_F_billTotal_4 f_F_67 (fun v2 => ?_)
  refine y_gO (fun fs1 g1 => y_cI (c_vi (rest := []) d_F_billTotal_7 k_L_billSum s_F_246 (Or.inl ⟨_, _, _, g1, rfl, rfl⟩) rfl rfl (Nat.le_of_ble_eq_true rfl) (Nat.le_trans (Nat.le_of_ble_eq_true rfl : 1 + 1 ≤ 2) hD) (S_L_billSum hfl (Nat.le_refl _) h v2)) (fun v4 h3 => ?_))
  exact y_retI d_F_billTotal_10 rfl rfl
noncomputable def P_F_billTotalByAccount (Θ : mW) (N : Nat) (h : mH) (a0 : Nat) : Option (Int32 × mH) :=
  (bo (rA Θ h 0 a0 0) (fun v1 => (gO Θ h 1 v1 (bc (P_D_billsByAccount Θ N h v1) (fun v3 h2 => (some (v3, h2)))))))
theorem S_F_billTotalByAccount (hfl : HF l Θ) (hD : 2 ≤ d) (h : mH) (a0 : Nat) : mMs l Θ d M_F_billTotalByAccount [.ref a0] h (tR vI) (P_F_billTotalByAccount Θ N h a0) := by
  refine mMs.of hfl (by decide +kernel) rfl (Nat.le_of_ble_eq_true rfl) (loc := [some (.ref a0)]) rfl ?_
  unfold P_F_billTotalByAccount
  refine y_aload_n d_F_billTotalByAccount_0 rfl ?_
  refine y_getA d_F_billTotalByAccount_1 f_F_10 (fun v1 => ?_)
  refine y_gO (fun fs1 g1 => y_cI (c_vi (rest := []) d_F_billTotalByAccount_4 k_D_billsByAccount s_F_249 (Or.inl ⟨_, _, _, g1, rfl, rfl⟩) rfl rfl (Nat.le_of_ble_eq_true rfl) (Nat.le_trans (Nat.le_of_ble_eq_true rfl : 1 + 1 ≤ 2) hD) (S_D_billsByAccount hfl (Nat.le_refl _) h v1)) (fun v3 h2 => ?_))
  exact y_retI d_F_billTotalByAccount_7 rfl rfl
noncomputable def P_F_meanDirt (Θ : mW) (N : Nat) (h : mH) (a0 : Nat) : Option ((UInt64 ⊕ Nat) × mH) :=
  (bo (rA Θ h 0 a0 0) (fun v1 => (bo (rA Θ h 1 v1 0) (fun v2 => (bo (rI Θ h 2 v2 1) (fun v3 => (if v3 = 0 then (xp 15 (h ++ [oB 15 []])) else (bo (rA Θ h 0 a0 0) (fun v4 => (bo (rA Θ h 1 v4 0) (fun v5 => (gO Θ h 2 v5 (bc (P_L_dirtSum Θ N h v5) (fun v7 h6 => (bo (rA Θ h6 0 a0 0) (fun v8 => (bo (rA Θ h6 1 v8 0) (fun v9 => (bo (rI Θ h6 2 v9 1) (fun v10 => (if (FP.ddiv (FP.i2d v7) (FP.i2d v10)) &&& 0x7fffffffffffffff ≤ 0x7ff0000000000000 then (some (.inl (FP.ddiv (FP.i2d v7) (FP.i2d v10)), h6)) else none)))))))))))))))))))))
theorem S_F_meanDirt (hfl : HF l Θ) (hD : 6 ≤ d) (h : mH) (a0 : Nat) : mMs l Θ d M_F_meanDirt [.ref a0] h (tX vD) (P_F_meanDirt Θ N h a0) := by
  refine mMs.of hfl (by decide +kernel) rfl (Nat.le_of_ble_eq_true rfl) (loc := [some (.ref a0)]) rfl ?_
  unfold P_F_meanDirt
  refine y_aload_n d_F_meanDirt_0 rfl ?_
  refine y_getA d_F_meanDirt_1 f_F_10 (fun v1 => ?_)
  refine y_getA d_F_meanDirt_4 f_F_67 (fun v2 => ?_)
  refine y_getI d_F_meanDirt_7 f_F_95 (fun v3 => ?_)
  refine y_if_ne (tgt := 24) d_F_meanDirt_10 (by decide) ?_ ?_
  · refine y_aload_n d_F_meanDirt_24 rfl ?_
    refine y_getA d_F_meanDirt_25 f_F_10 (fun v4 => ?_)
    refine y_getA d_F_meanDirt_28 f_F_67 (fun v5 => ?_)
    refine y_gO (fun fs1 g1 => y_cI (c_vi (rest := []) d_F_meanDirt_31 k_L_dirtSum s_F_327 (Or.inl ⟨_, _, _, g1, rfl, rfl⟩) rfl rfl (Nat.le_of_ble_eq_true rfl) (Nat.le_trans (Nat.le_of_ble_eq_true rfl : 1 + 1 ≤ 6) hD) (S_L_dirtSum hfl (Nat.le_refl _) h v5)) (fun v7 h6 => ?_))
    refine y_i2d d_F_meanDirt_34 ?_
    refine y_aload_n d_F_meanDirt_35 rfl ?_
    refine y_getA d_F_meanDirt_36 f_F_10 (fun v8 => ?_)
    refine y_getA d_F_meanDirt_39 f_F_67 (fun v9 => ?_)
    refine y_getI d_F_meanDirt_42 f_F_95 (fun v10 => ?_)
    refine y_i2d d_F_meanDirt_45 ?_
    refine y_gd (fun hn => y_ddiv d_F_meanDirt_46 hn ?_)
    exact y_retDX d_F_meanDirt_47 rfl
  · exact y_throwW rfl d_F_meanDirt_13 d_F_meanDirt_16 d_F_meanDirt_17 d_F_meanDirt_20 d_F_meanDirt_23 mExc_15 y_F_322 x_F_326 (List.mem_of_getElem? (i := 37) rfl) (Nat.le_of_ble_eq_true rfl) (Nat.le_trans (Nat.le_of_ble_eq_true rfl) hD)
noncomputable def P_F_isConsistent (Θ : mW) (N : Nat) (h : mH) (a0 : Nat) : Option (Int32 × mH) :=
  (bo (rA Θ h 0 a0 0) (fun v1 => (bo (rI Θ h 1 v1 5) (fun v2 => (bc (P_E_agreesFrom Θ N h v2) (fun v4 h3 => (if v4 = 0 then (some ((J 0), h3)) else (bo (rA Θ h3 0 a0 0) (fun v5 => (bo (rA Θ h3 1 v5 1) (fun v6 => (bo (rA Θ h3 0 a0 0) (fun v7 => (bo (rA Θ h3 1 v7 0) (fun v8 => (gO Θ h3 4 v6 (bc (P_B_waysAgree Θ N h3 v6 v8) (fun v10 h9 => (if v10 = 0 then (some ((J 0), h9)) else (bo (rA Θ h9 0 a0 0) (fun v11 => (bo (rA Θ h9 1 v11 0) (fun v12 => (gO Θ h9 2 v12 (bc (P_L_gapsAgree Θ N h9 v12) (fun v14 h13 => (if v14 = 0 then (some ((J 0), h13)) else (bo (rA Θ h13 0 a0 5) (fun v15 => (bo (rA Θ h13 0 a0 0) (fun v16 => (gO Θ h13 6 v15 (bc (P_G_mostByTrying Θ N h13 v15 v16) (fun v18 h17 => (bo (rA Θ h17 0 a0 5) (fun v19 => (bo (rA Θ h17 0 a0 0) (fun v20 => (gO Θ h17 6 v19 (bc (P_G_mostByTable Θ N h17 v19 v20) (fun v22 h21 => (if v18 = v22 then (bo (rA Θ h21 0 a0 0) (fun v23 => (bo (rA Θ h21 1 v23 0) (fun v24 => (gO Θ h21 2 v24 (bc (P_L_billSum Θ N h21 v24) (fun v26 h25 => (bo (rA Θ h25 0 a0 0) (fun v27 => (gO Θ h25 1 v27 (bc (P_D_billsByAccount Θ N h25 v27) (fun v29 h28 => (if v26 = v29 then (bo (rA Θ h28 0 a0 0) (fun v30 => (bo (rA Θ h28 1 v30 0) (fun v31 => (gO Θ h28 2 v31 (bc (P_L_hasOverlap Θ N h28 v31) (fun v33 h32 => (if v33 = 0 then (some ((J 1), h32)) else (some ((J 0), h32)))))))))) else (some ((J 0), h28))))))))))))))) else (some ((J 0), h21))))))))))))))))))))))))))))))))))))))))))))
theorem S_F_isConsistent (hfl : HF l Θ) (hD : 12 ≤ d) (h : mH) (a0 : Nat) : mMs l Θ d M_F_isConsistent [.ref a0] h (tR vI) (P_F_isConsistent Θ N h a0) := by
  refine mMs.of hfl (by decide +kernel) rfl (Nat.le_of_ble_eq_true rfl) (loc := [some (.ref a0)]) rfl ?_
  unfold P_F_isConsistent
  refine y_aload_n d_F_isConsistent_0 rfl ?_
  refine y_getA d_F_isConsistent_1 f_F_10 (fun v1 => ?_)
  refine y_getI d_F_isConsistent_4 f_F_174 (fun v2 => ?_)
  refine y_cI (c_st (rest := []) d_F_isConsistent_7 k_E_agreesFrom s_F_331 rfl rfl (Nat.le_of_ble_eq_true rfl) (Nat.le_trans (Nat.le_of_ble_eq_true rfl : 3 + 1 ≤ 12) hD) (S_E_agreesFrom hfl (Nat.le_refl _) h v2)) (fun v4 h3 => ?_)
  refine y_if_eq (tgt := 108) d_F_isConsistent_10 (by decide) ?_ ?_
  · refine y_iconst (v := (J 0)) d_F_isConsistent_108 rfl ?_
    exact y_retI d_F_isConsistent_109 rfl (by decide +kernel)
  · refine y_aload_n d_F_isConsistent_13 rfl ?_
    refine y_getA d_F_isConsistent_14 f_F_10 (fun v5 => ?_)
    refine y_getA d_F_isConsistent_17 f_F_194 (fun v6 => ?_)
    refine y_aload_n d_F_isConsistent_20 rfl ?_
    refine y_getA d_F_isConsistent_21 f_F_10 (fun v7 => ?_)
    refine y_getA d_F_isConsistent_24 f_F_67 (fun v8 => ?_)
    refine y_gO (fun fs1 g1 => y_cI (c_vi (rest := []) d_F_isConsistent_27 k_B_waysAgree s_F_334 (Or.inl ⟨_, _, _, g1, rfl, rfl⟩) rfl rfl (Nat.le_of_ble_eq_true rfl) (Nat.le_trans (Nat.le_of_ble_eq_true rfl : 4 + 1 ≤ 12) hD) (S_B_waysAgree hfl (Nat.le_refl _) h3 v6 v8)) (fun v10 h9 => ?_))
    refine y_if_eq (tgt := 108) d_F_isConsistent_30 (by decide) ?_ ?_
    · refine y_iconst (v := (J 0)) d_F_isConsistent_108 rfl ?_
      exact y_retI d_F_isConsistent_109 rfl (by decide +kernel)
    · refine y_aload_n d_F_isConsistent_33 rfl ?_
      refine y_getA d_F_isConsistent_34 f_F_10 (fun v11 => ?_)
      refine y_getA d_F_isConsistent_37 f_F_67 (fun v12 => ?_)
      refine y_gO (fun fs1 g1 => y_cI (c_vi (rest := []) d_F_isConsistent_40 k_L_gapsAgree s_F_338 (Or.inl ⟨_, _, _, g1, rfl, rfl⟩) rfl rfl (Nat.le_of_ble_eq_true rfl) (Nat.le_trans (Nat.le_of_ble_eq_true rfl : 4 + 1 ≤ 12) hD) (S_L_gapsAgree hfl (Nat.le_refl _) h9 v12)) (fun v14 h13 => ?_))
      refine y_if_eq (tgt := 108) d_F_isConsistent_43 (by decide) ?_ ?_
      · refine y_iconst (v := (J 0)) d_F_isConsistent_108 rfl ?_
        exact y_retI d_F_isConsistent_109 rfl (by decide +kernel)
      · refine y_aload_n d_F_isConsistent_46 rfl ?_
        refine y_getA d_F_isConsistent_47 f_F_36 (fun v15 => ?_)
        refine y_aload_n d_F_isConsistent_50 rfl ?_
        refine y_getA d_F_isConsistent_51 f_F_10 (fun v16 => ?_)
        refine y_gO (fun fs1 g1 => y_cI (c_vi (rest := []) d_F_isConsistent_54 k_G_mostByTrying s_F_230 (Or.inl ⟨_, _, _, g1, rfl, rfl⟩) rfl rfl (Nat.le_of_ble_eq_true rfl) (Nat.le_trans (Nat.le_of_ble_eq_true rfl : 11 + 1 ≤ 12) hD) (S_G_mostByTrying hfl (Nat.le_refl _) h13 v15 v16)) (fun v18 h17 => ?_))
        refine y_aload_n d_F_isConsistent_57 rfl ?_
        refine y_getA d_F_isConsistent_58 f_F_36 (fun v19 => ?_)
        refine y_aload_n d_F_isConsistent_61 rfl ?_
        refine y_getA d_F_isConsistent_62 f_F_10 (fun v20 => ?_)
        refine y_gO (fun fs1 g1 => y_cI (c_vi (rest := [.int v18]) d_F_isConsistent_65 k_G_mostByTable s_F_234 (Or.inl ⟨_, _, _, g1, rfl, rfl⟩) rfl rfl (Nat.le_of_ble_eq_true rfl) (Nat.le_trans (Nat.le_of_ble_eq_true rfl : 4 + 1 ≤ 12) hD) (S_G_mostByTable hfl (Nat.le_refl _) h17 v19 v20)) (fun v22 h21 => ?_))
        refine y_icmp_ne (tgt := 108) d_F_isConsistent_68 (by decide) ?_ ?_
        · refine y_iconst (v := (J 0)) d_F_isConsistent_108 rfl ?_
          exact y_retI d_F_isConsistent_109 rfl (by decide +kernel)
        · refine y_aload_n d_F_isConsistent_71 rfl ?_
          refine y_getA d_F_isConsistent_72 f_F_10 (fun v23 => ?_)
          refine y_getA d_F_isConsistent_75 f_F_67 (fun v24 => ?_)
          refine y_gO (fun fs1 g1 => y_cI (c_vi (rest := []) d_F_isConsistent_78 k_L_billSum s_F_246 (Or.inl ⟨_, _, _, g1, rfl, rfl⟩) rfl rfl (Nat.le_of_ble_eq_true rfl) (Nat.le_trans (Nat.le_of_ble_eq_true rfl : 1 + 1 ≤ 12) hD) (S_L_billSum hfl (Nat.le_refl _) h21 v24)) (fun v26 h25 => ?_))
          refine y_aload_n d_F_isConsistent_81 rfl ?_
          refine y_getA d_F_isConsistent_82 f_F_10 (fun v27 => ?_)
          refine y_gO (fun fs1 g1 => y_cI (c_vi (rest := [.int v26]) d_F_isConsistent_85 k_D_billsByAccount s_F_249 (Or.inl ⟨_, _, _, g1, rfl, rfl⟩) rfl rfl (Nat.le_of_ble_eq_true rfl) (Nat.le_trans (Nat.le_of_ble_eq_true rfl : 1 + 1 ≤ 12) hD) (S_D_billsByAccount hfl (Nat.le_refl _) h25 v27)) (fun v29 h28 => ?_))
          refine y_icmp_ne (tgt := 108) d_F_isConsistent_88 (by decide) ?_ ?_
          · refine y_iconst (v := (J 0)) d_F_isConsistent_108 rfl ?_
            exact y_retI d_F_isConsistent_109 rfl (by decide +kernel)
          · refine y_aload_n d_F_isConsistent_91 rfl ?_
            refine y_getA d_F_isConsistent_92 f_F_10 (fun v30 => ?_)
            refine y_getA d_F_isConsistent_95 f_F_67 (fun v31 => ?_)
            refine y_gO (fun fs1 g1 => y_cI (c_vi (rest := []) d_F_isConsistent_98 k_L_hasOverlap s_F_341 (Or.inl ⟨_, _, _, g1, rfl, rfl⟩) rfl rfl (Nat.le_of_ble_eq_true rfl) (Nat.le_trans (Nat.le_of_ble_eq_true rfl : 2 + 1 ≤ 12) hD) (S_L_hasOverlap hfl (Nat.le_refl _) h28 v31)) (fun v33 h32 => ?_))
            refine y_if_ne (tgt := 108) d_F_isConsistent_101 (by decide) ?_ ?_
            · refine y_iconst (v := (J 0)) d_F_isConsistent_108 rfl ?_
              exact y_retI d_F_isConsistent_109 rfl (by decide +kernel)
            · refine y_iconst (v := (J 1)) d_F_isConsistent_104 rfl ?_
              refine y_goto (tgt := 109) d_F_isConsistent_105 (by decide) ?_
              exact y_retI d_F_isConsistent_109 rfl (by decide +kernel)
noncomputable def P_F_save (Θ : mW) (N : Nat) (h : mH) (a0 : Nat) : Option (Int32 × mH) :=
  (bo (rA Θ h 0 a0 3) (fun v1 => (bo (rA Θ h 0 a0 0) (fun v2 => (gO Θ h 1 v1 (bc (P_D_copyFrom Θ N h v1 v2) (fun v4 h3 => (bo (wF Θ h3 0 a0 4 (.int (J 1))) (fun h5 => (bo (rA Θ h5 0 a0 0) (fun v6 => (bo (rA Θ h5 1 v6 0) (fun v7 => (bo (rI Θ h5 2 v7 1) (fun v8 => (some (v8, h5)))))))))))))))))
theorem S_F_save (hfl : HF l Θ) (hD : 5 ≤ d) (h : mH) (a0 : Nat) : mMs l Θ d M_F_save [.ref a0] h (tR vI) (P_F_save Θ N h a0) := by
  refine mMs.of hfl (by decide +kernel) rfl (Nat.le_of_ble_eq_true rfl) (loc := [some (.ref a0)]) rfl ?_
  unfold P_F_save
  refine y_aload_n d_F_save_0 rfl ?_
  refine y_getA d_F_save_1 f_F_26 (fun v1 => ?_)
  refine y_aload_n d_F_save_4 rfl ?_
  refine y_getA d_F_save_5 f_F_10 (fun v2 => ?_)
  refine y_gO (fun fs1 g1 => y_cU (c_vi (rest := []) d_F_save_8 k_D_copyFrom s_F_287 (Or.inl ⟨_, _, _, g1, rfl, rfl⟩) rfl rfl (Nat.le_of_ble_eq_true rfl) (Nat.le_trans (Nat.le_of_ble_eq_true rfl : 4 + 1 ≤ 5) hD) (S_D_copyFrom hfl (Nat.le_refl _) h v1 v2)) (fun v4 h3 => ?_))
  refine y_aload_n d_F_save_11 rfl ?_
  refine y_iconst (v := (J 1)) d_F_save_12 rfl ?_
  refine y_put d_F_save_13 p_F_29 rfl rfl (fun h5 => ?_)
  refine y_aload_n d_F_save_16 rfl ?_
  refine y_getA d_F_save_17 f_F_10 (fun v6 => ?_)
  refine y_getA d_F_save_20 f_F_67 (fun v7 => ?_)
  refine y_getI d_F_save_23 f_F_95 (fun v8 => ?_)
  exact y_retI d_F_save_26 rfl rfl
noncomputable def P_F_mostFittingMetres (Θ : mW) (N : Nat) (h : mH) (a0 : Nat) : Option (Int32 × mH) :=
  (bo (rA Θ h 0 a0 5) (fun v1 => (bo (rA Θ h 0 a0 0) (fun v2 => (gO Θ h 6 v1 (bc (P_G_mostMetres Θ N h v1 v2) (fun v4 h3 => (some (v4, h3)))))))))
theorem S_F_mostFittingMetres (hfl : HF l Θ) (hD : 5 ≤ d) (h : mH) (a0 : Nat) : mMs l Θ d M_F_mostFittingMetres [.ref a0] h (tR vI) (P_F_mostFittingMetres Θ N h a0) := by
  refine mMs.of hfl (by decide +kernel) rfl (Nat.le_of_ble_eq_true rfl) (loc := [some (.ref a0)]) rfl ?_
  unfold P_F_mostFittingMetres
  refine y_aload_n d_F_mostFittingMetres_0 rfl ?_
  refine y_getA d_F_mostFittingMetres_1 f_F_36 (fun v1 => ?_)
  refine y_aload_n d_F_mostFittingMetres_4 rfl ?_
  refine y_getA d_F_mostFittingMetres_5 f_F_10 (fun v2 => ?_)
  refine y_gO (fun fs1 g1 => y_cI (c_vi (rest := []) d_F_mostFittingMetres_8 k_G_mostMetres s_F_237 (Or.inl ⟨_, _, _, g1, rfl, rfl⟩) rfl rfl (Nat.le_of_ble_eq_true rfl) (Nat.le_trans (Nat.le_of_ble_eq_true rfl : 4 + 1 ≤ 5) hD) (S_G_mostMetres hfl (Nat.le_refl _) h v1 v2)) (fun v4 h3 => ?_))
  exact y_retI d_F_mostFittingMetres_11 rfl rfl
noncomputable def P_F_restore (Θ : mW) (N : Nat) (h : mH) (a0 : Nat) : Option ((Int32 ⊕ Nat) × mH) :=
  (bo (rI Θ h 0 a0 4) (fun v1 => (if v1 = 0 then (xp 12 (h ++ [oB 12 []])) else (bo (rA Θ h 0 a0 0) (fun v2 => (bo (rA Θ h 0 a0 3) (fun v3 => (gO Θ h 1 v2 (bc (P_D_copyFrom Θ N h v2 v3) (fun v5 h4 => (bo (rA Θ h4 0 a0 2) (fun v6 => (gO Θ h4 5 v6 (bc (P_H_forget Θ N h4 v6) (fun v8 h7 => (bo (rA Θ h7 0 a0 0) (fun v9 => (bo (rA Θ h7 1 v9 0) (fun v10 => (bo (rI Θ h7 2 v10 1) (fun v11 => (some (.inl v11, h7)))))))))))))))))))))))
theorem S_F_restore (hfl : HF l Θ) (hD : 6 ≤ d) (h : mH) (a0 : Nat) : mMs l Θ d M_F_restore [.ref a0] h (tX vI) (P_F_restore Θ N h a0) := by
  refine mMs.of hfl (by decide +kernel) rfl (Nat.le_of_ble_eq_true rfl) (loc := [some (.ref a0)]) rfl ?_
  unfold P_F_restore
  refine y_aload_n d_F_restore_0 rfl ?_
  refine y_getI d_F_restore_1 f_F_29 (fun v1 => ?_)
  refine y_if_ne (tgt := 18) d_F_restore_4 (by decide) ?_ ?_
  · refine y_aload_n d_F_restore_18 rfl ?_
    refine y_getA d_F_restore_19 f_F_10 (fun v2 => ?_)
    refine y_aload_n d_F_restore_22 rfl ?_
    refine y_getA d_F_restore_23 f_F_26 (fun v3 => ?_)
    refine y_gO (fun fs1 g1 => y_cU (c_vi (rest := []) d_F_restore_26 k_D_copyFrom s_F_287 (Or.inl ⟨_, _, _, g1, rfl, rfl⟩) rfl rfl (Nat.le_of_ble_eq_true rfl) (Nat.le_trans (Nat.le_of_ble_eq_true rfl : 4 + 1 ≤ 6) hD) (S_D_copyFrom hfl (Nat.le_refl _) h v2 v3)) (fun v5 h4 => ?_))
    refine y_aload_n d_F_restore_29 rfl ?_
    refine y_getA d_F_restore_30 f_F_22 (fun v6 => ?_)
    refine y_gO (fun fs1 g1 => y_cU (c_vi (rest := []) d_F_restore_33 k_H_forget s_F_353 (Or.inl ⟨_, _, _, g1, rfl, rfl⟩) rfl rfl (Nat.le_of_ble_eq_true rfl) (Nat.le_trans (Nat.le_of_ble_eq_true rfl : 1 + 1 ≤ 6) hD) (S_H_forget hfl (Nat.le_refl _) h4 v6)) (fun v8 h7 => ?_))
    refine y_aload_n d_F_restore_36 rfl ?_
    refine y_getA d_F_restore_37 f_F_10 (fun v9 => ?_)
    refine y_getA d_F_restore_40 f_F_67 (fun v10 => ?_)
    refine y_getI d_F_restore_43 f_F_95 (fun v11 => ?_)
    exact y_retIX d_F_restore_46 rfl rfl
  · exact y_throwW rfl d_F_restore_7 d_F_restore_10 d_F_restore_11 d_F_restore_14 d_F_restore_17 mExc_12 y_F_291 x_F_295 (List.mem_of_getElem? (i := 38) rfl) (Nat.le_of_ble_eq_true rfl) (Nat.le_trans (Nat.le_of_ble_eq_true rfl) hD)
noncomputable def P_F_mostFitting (Θ : mW) (N : Nat) (h : mH) (a0 : Nat) : Option (Int32 × mH) :=
  (bo (rA Θ h 0 a0 5) (fun v1 => (bo (rA Θ h 0 a0 0) (fun v2 => (gO Θ h 6 v1 (bc (P_G_mostByTrying Θ N h v1 v2) (fun v4 h3 => (some (v4, h3)))))))))
theorem S_F_mostFitting (hfl : HF l Θ) (hD : 12 ≤ d) (h : mH) (a0 : Nat) : mMs l Θ d M_F_mostFitting [.ref a0] h (tR vI) (P_F_mostFitting Θ N h a0) := by
  refine mMs.of hfl (by decide +kernel) rfl (Nat.le_of_ble_eq_true rfl) (loc := [some (.ref a0)]) rfl ?_
  unfold P_F_mostFitting
  refine y_aload_n d_F_mostFitting_0 rfl ?_
  refine y_getA d_F_mostFitting_1 f_F_36 (fun v1 => ?_)
  refine y_aload_n d_F_mostFitting_4 rfl ?_
  refine y_getA d_F_mostFitting_5 f_F_10 (fun v2 => ?_)
  refine y_gO (fun fs1 g1 => y_cI (c_vi (rest := []) d_F_mostFitting_8 k_G_mostByTrying s_F_230 (Or.inl ⟨_, _, _, g1, rfl, rfl⟩) rfl rfl (Nat.le_of_ble_eq_true rfl) (Nat.le_trans (Nat.le_of_ble_eq_true rfl : 11 + 1 ≤ 12) hD) (S_G_mostByTrying hfl (Nat.le_refl _) h v1 v2)) (fun v4 h3 => ?_))
  exact y_retI d_F_mostFitting_11 rfl rfl
noncomputable def P_F_mostFittingByTable (Θ : mW) (N : Nat) (h : mH) (a0 : Nat) : Option (Int32 × mH) :=
  (bo (rA Θ h 0 a0 5) (fun v1 => (bo (rA Θ h 0 a0 0) (fun v2 => (gO Θ h 6 v1 (bc (P_G_mostByTable Θ N h v1 v2) (fun v4 h3 => (some (v4, h3)))))))))
theorem S_F_mostFittingByTable (hfl : HF l Θ) (hD : 5 ≤ d) (h : mH) (a0 : Nat) : mMs l Θ d M_F_mostFittingByTable [.ref a0] h (tR vI) (P_F_mostFittingByTable Θ N h a0) := by
  refine mMs.of hfl (by decide +kernel) rfl (Nat.le_of_ble_eq_true rfl) (loc := [some (.ref a0)]) rfl ?_
  unfold P_F_mostFittingByTable
  refine y_aload_n d_F_mostFittingByTable_0 rfl ?_
  refine y_getA d_F_mostFittingByTable_1 f_F_36 (fun v1 => ?_)
  refine y_aload_n d_F_mostFittingByTable_4 rfl ?_
  refine y_getA d_F_mostFittingByTable_5 f_F_10 (fun v2 => ?_)
  refine y_gO (fun fs1 g1 => y_cI (c_vi (rest := []) d_F_mostFittingByTable_8 k_G_mostByTable s_F_234 (Or.inl ⟨_, _, _, g1, rfl, rfl⟩) rfl rfl (Nat.le_of_ble_eq_true rfl) (Nat.le_trans (Nat.le_of_ble_eq_true rfl : 4 + 1 ≤ 5) hD) (S_G_mostByTable hfl (Nat.le_refl _) h v1 v2)) (fun v4 h3 => ?_))
  exact y_retI d_F_mostFittingByTable_11 rfl rfl
noncomputable def P_F_seaLevelByHours (Θ : mW) (N : Nat) (h : mH) (a0 : Nat) (a1 : Int32) : Option ((Int32 ⊕ Nat) × mH) :=
  (bx (P_E_checkHour Θ N h a1) (fun v2 h1 => (bc (P_E_byHours Θ N h1 a1) (fun v4 h3 => (some (.inl v4, h3))))) (fun n9 h9 => xp n9 h9))
theorem S_F_seaLevelByHours (hfl : HF l Θ) (hD : 7 ≤ d) (h : mH) (a0 : Nat) (a1 : Int32) : mMs l Θ d M_F_seaLevelByHours [.ref a0, .int a1] h (tX vI) (P_F_seaLevelByHours Θ N h a0 a1) := by
  refine mMs.of hfl (by decide +kernel) rfl (Nat.le_of_ble_eq_true rfl) (loc := [some (.ref a0), some (.int a1)]) rfl ?_
  unfold P_F_seaLevelByHours
  refine y_iload_n d_F_seaLevelByHours_0 rfl ?_
  refine y_xU (c_st (rest := []) d_F_seaLevelByHours_1 k_E_checkHour s_F_159 rfl rfl (Nat.le_of_ble_eq_true rfl) (Nat.le_trans (Nat.le_of_ble_eq_true rfl : 6 + 1 ≤ 7) hD) (S_E_checkHour hfl (Nat.le_refl _) h a1)) (fun v2 h1 => ?_) (fun _ _ => y_hp rfl)
  refine y_iload_n d_F_seaLevelByHours_4 rfl ?_
  refine y_cI (c_st (rest := []) d_F_seaLevelByHours_5 k_E_byHours s_F_168 rfl rfl (Nat.le_of_ble_eq_true rfl) (Nat.le_trans (Nat.le_of_ble_eq_true rfl : 2 + 1 ≤ 7) hD) (S_E_byHours hfl (Nat.le_refl _) h1 a1)) (fun v4 h3 => ?_)
  exact y_retIX d_F_seaLevelByHours_8 rfl rfl
noncomputable def P_F_hour (Θ : mW) (N : Nat) (h : mH) (a0 : Nat) : Option (Int32 × mH) :=
  (bo (rA Θ h 0 a0 0) (fun v1 => (bo (rI Θ h 1 v1 5) (fun v2 => (some (v2, h))))))
theorem S_F_hour (hfl : HF l Θ) (hD : 1 ≤ d) (h : mH) (a0 : Nat) : mMs l Θ d M_F_hour [.ref a0] h (tR vI) (P_F_hour Θ N h a0) := by
  refine mMs.of hfl (by decide +kernel) rfl (Nat.le_of_ble_eq_true rfl) (loc := [some (.ref a0)]) rfl ?_
  unfold P_F_hour
  refine y_aload_n d_F_hour_0 rfl ?_
  refine y_getA d_F_hour_1 f_F_10 (fun v1 => ?_)
  refine y_getI d_F_hour_4 f_F_174 (fun v2 => ?_)
  exact y_retI d_F_hour_7 rfl rfl
noncomputable def P_F_level (Θ : mW) (N : Nat) (h : mH) (a0 : Nat) : Option (Int32 × mH) :=
  (bo (rA Θ h 0 a0 0) (fun v1 => (bo (rI Θ h 1 v1 2) (fun v2 => (some (v2, h))))))
theorem S_F_level (hfl : HF l Θ) (hD : 1 ≤ d) (h : mH) (a0 : Nat) : mMs l Θ d M_F_level [.ref a0] h (tR vI) (P_F_level Θ N h a0) := by
  refine mMs.of hfl (by decide +kernel) rfl (Nat.le_of_ble_eq_true rfl) (loc := [some (.ref a0)]) rfl ?_
  unfold P_F_level
  refine y_aload_n d_F_level_0 rfl ?_
  refine y_getA d_F_level_1 f_F_10 (fun v1 => ?_)
  refine y_getI d_F_level_4 f_F_137 (fun v2 => ?_)
  exact y_retI d_F_level_7 rfl rfl
noncomputable def P_F_paidTotal (Θ : mW) (N : Nat) (h : mH) (a0 : Nat) : Option (Int32 × mH) :=
  (bo (rA Θ h 0 a0 0) (fun v1 => (bo (rI Θ h 1 v1 7) (fun v2 => (some (v2, h))))))
theorem S_F_paidTotal (hfl : HF l Θ) (hD : 1 ≤ d) (h : mH) (a0 : Nat) : mMs l Θ d M_F_paidTotal [.ref a0] h (tR vI) (P_F_paidTotal Θ N h a0) := by
  refine mMs.of hfl (by decide +kernel) rfl (Nat.le_of_ble_eq_true rfl) (loc := [some (.ref a0)]) rfl ?_
  unfold P_F_paidTotal
  refine y_aload_n d_F_paidTotal_0 rfl ?_
  refine y_getA d_F_paidTotal_1 f_F_10 (fun v1 => ?_)
  refine y_getI d_F_paidTotal_4 f_F_252 (fun v2 => ?_)
  exact y_retI d_F_paidTotal_7 rfl rfl
noncomputable def P_F_hoursAfloat (Θ : mW) (N : Nat) (h : mH) (a0 : Nat) (a1 : Int32) : Option ((Int32 ⊕ Nat) × mH) :=
  (bo (rA Θ h 0 a0 0) (fun v1 => (bo (rA Θ h 1 v1 0) (fun v2 => (gO Θ h 2 v2 (bx (P_L_known Θ N h v2 a1) (fun v4 h3 => (bo (rI Θ h3 3 v4 5) (fun v5 => (some (.inl v5, h3))))) (fun n9 h9 => xp n9 h9)))))))
theorem S_F_hoursAfloat (hfl : HF l Θ) (hD : 7 ≤ d) (h : mH) (a0 : Nat) (a1 : Int32) : mMs l Θ d M_F_hoursAfloat [.ref a0, .int a1] h (tX vI) (P_F_hoursAfloat Θ N h a0 a1) := by
  refine mMs.of hfl (by decide +kernel) rfl (Nat.le_of_ble_eq_true rfl) (loc := [some (.ref a0), some (.int a1)]) rfl ?_
  unfold P_F_hoursAfloat
  refine y_aload_n d_F_hoursAfloat_0 rfl ?_
  refine y_getA d_F_hoursAfloat_1 f_F_10 (fun v1 => ?_)
  refine y_getA d_F_hoursAfloat_4 f_F_67 (fun v2 => ?_)
  refine y_iload_n d_F_hoursAfloat_7 rfl ?_
  refine y_gO (fun fs1 g1 => y_xA (c_vi (rest := []) d_F_hoursAfloat_8 k_L_known s_F_114 (Or.inl ⟨_, _, _, g1, rfl, rfl⟩) rfl rfl (Nat.le_of_ble_eq_true rfl) (Nat.le_trans (Nat.le_of_ble_eq_true rfl : 6 + 1 ≤ 7) hD) (S_L_known hfl (Nat.le_refl _) h v2 a1)) (fun v4 h3 => ?_) (fun _ _ => y_hp rfl))
  refine y_getI d_F_hoursAfloat_11 f_F_134 (fun v5 => ?_)
  exact y_retIX d_F_hoursAfloat_14 rfl rfl
end GP
