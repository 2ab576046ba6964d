/-! programs of methods -/
section GP
variable {l : Launch} {Θ : mW} {d N : Nat}
noncomputable def P_W_addShip (Θ : mW) (N : Nat) (h : mH) (a0 : Nat) (a1 : Int32) (a2 : Int32) (a3 : Int32) (a4 : Nat) : Option (Int32 × mH) :=
  (gO Θ h 0 a0 (bx (P_F_addShip Θ N h a0 a1 a2 a3) (fun v2 h1 => (bo (aWL Θ h1 a4 (J 0) ((v2).toInt64)) (fun h5 => (some ((J 0), h5))))) (fun n9 h3 => if n9 = 11 then (some ((J 1), h3)) else if n9 = 12 then (some ((J 2), h3)) else none)))
theorem S_W_addShip (hfl : HF l Θ) (hD : 8 ≤ d) (h : mH) (a0 : Nat) (a1 : Int32) (a2 : Int32) (a3 : Int32) (a4 : Nat) : mMs l Θ d M_W_addShip [.ref a0, .int a1, .int a2, .int a3, .ref a4] h (tR vI) (P_W_addShip Θ N h a0 a1 a2 a3 a4) := by
  refine mMs.of hfl (by decide +kernel) rfl (Nat.le_of_ble_eq_true rfl) (loc := [some (.ref a0), some (.int a1), some (.int a2), some (.int a3), some (.ref a4), none]) rfl ?_
  unfold P_W_addShip
  refine y_aload d_W_addShip_0 rfl ?_
  refine y_iconst (v := (J 0)) d_W_addShip_2 rfl ?_
  refine y_aload_n d_W_addShip_3 rfl ?_
  refine y_iload_n d_W_addShip_4 rfl ?_
  refine y_iload_n d_W_addShip_5 rfl ?_
  refine y_iload_n d_W_addShip_6 rfl ?_
  refine y_gO (fun fs1 g1 => y_xI (c_vi (rest := [.int (J 0), .ref a4]) d_W_addShip_7 k_F_addShip s_W_7 (Or.inl ⟨_, _, _, g1, rfl, rfl⟩) rfl rfl (Nat.le_of_ble_eq_true rfl) (Nat.le_trans (Nat.le_of_ble_eq_true rfl : 7 + 1 ≤ 8) hD) (S_F_addShip hfl (Nat.le_refl _) h a0 a1 a2 a3)) (fun v2 h1 => ?_) (fun n9 h3 => y_h1 (show mCatch M_W_addShip 7 11 15 from ⟨[], (0, 12, 15, 13), [(0, 12, 19, 15)], "java/lang/IllegalArgumentException", rfl, by decide, by decide, rfl, mG (4, 202) (by decide +kernel), mN (3, 171) (by decide +kernel), (fun z hz => absurd hz List.not_mem_nil)⟩) (fun q4 => ?_) (y_h1 (show mCatch M_W_addShip 7 12 19 from ⟨[(0, 12, 15, 13)], (0, 12, 19, 15), [], "java/lang/IllegalStateException", rfl, by decide, by decide, rfl, mG (4, 203) (by decide +kernel), mN (4, 221) (by decide +kernel), (by intro z hz; simp only [List.mem_cons, List.not_mem_nil, or_false] at hz; rcases hz with rfl <;> first | exact ⟨by decide, "java/lang/IllegalArgumentException", mG (4, 202) (by decide +kernel), by decide +kernel⟩)⟩) (fun q4 => ?_) (y_h0))))
  · refine y_i2l (v := ((v2).toInt64)) d_W_addShip_10 rfl ?_
    refine y_last d_W_addShip_11 (fun h5 => ?_)
    refine y_goto (tgt := 23) d_W_addShip_12 (by decide) ?_
    refine y_iconst (v := (J 0)) d_W_addShip_23 rfl ?_
    exact y_retI d_W_addShip_24 rfl rfl
  · refine y_astore (loc2 := [some (.ref a0), some (.int a1), some (.int a2), some (.int a3), some (.ref a4), some (.ref q4)]) d_W_addShip_15 (Nat.le_of_ble_eq_true rfl) rfl rfl ?_
    refine y_iconst (v := (J 1)) d_W_addShip_17 rfl ?_
    exact y_retI d_W_addShip_18 rfl rfl
  · refine y_astore (loc2 := [some (.ref a0), some (.int a1), some (.int a2), some (.int a3), some (.ref a4), some (.ref q4)]) d_W_addShip_19 (Nat.le_of_ble_eq_true rfl) rfl rfl ?_
    refine y_iconst (v := (J 2)) d_W_addShip_21 rfl ?_
    exact y_retI d_W_addShip_22 rfl rfl
noncomputable def P_W_removeShip (Θ : mW) (N : Nat) (h : mH) (a0 : Nat) (a1 : Int32) (a2 : Nat) : Option (Int32 × mH) :=
  (gO Θ h 0 a0 (bx (P_F_removeShip Θ N h a0 a1) (fun v2 h1 => (bo (aWL Θ h1 a2 (J 0) ((v2).toInt64)) (fun h5 => (some ((J 0), h5))))) (fun n9 h3 => if n9 = 10 then (some ((J 1), h3)) else if n9 = 12 then (some ((J 2), h3)) else none)))
theorem S_W_removeShip (hfl : HF l Θ) (hD : 9 ≤ d) (h : mH) (a0 : Nat) (a1 : Int32) (a2 : Nat) : mMs l Θ d M_W_removeShip [.ref a0, .int a1, .ref a2] h (tR vI) (P_W_removeShip Θ N h a0 a1 a2) := by
  refine mMs.of hfl (by decide +kernel) rfl (Nat.le_of_ble_eq_true rfl) (loc := [some (.ref a0), some (.int a1), some (.ref a2), none]) rfl ?_
  unfold P_W_removeShip
  refine y_aload_n d_W_removeShip_0 rfl ?_
  refine y_iconst (v := (J 0)) d_W_removeShip_1 rfl ?_
  refine y_aload_n d_W_removeShip_2 rfl ?_
  refine y_iload_n d_W_removeShip_3 rfl ?_
  refine y_gO (fun fs1 g1 => y_xI (c_vi (rest := [.int (J 0), .ref a2]) d_W_removeShip_4 k_F_removeShip s_W_17 (Or.inl ⟨_, _, _, g1, rfl, rfl⟩) rfl rfl (Nat.le_of_ble_eq_true rfl) (Nat.le_trans (Nat.le_of_ble_eq_true rfl : 8 + 1 ≤ 9) hD) (S_F_removeShip hfl (Nat.le_refl _) h a0 a1)) (fun v2 h1 => ?_) (fun n9 h3 => y_h1 (show mCatch M_W_removeShip 4 10 12 from ⟨[], (0, 9, 12, 21), [(0, 9, 15, 15)], "java/util/NoSuchElementException", rfl, by decide, by decide, rfl, mG (5, 8) (by decide +kernel), mN (5, 23) (by decide +kernel), (fun z hz => absurd hz List.not_mem_nil)⟩) (fun q4 => ?_) (y_h1 (show mCatch M_W_removeShip 4 12 15 from ⟨[(0, 9, 12, 21)], (0, 9, 15, 15), [], "java/lang/IllegalStateException", rfl, by decide, by decide, rfl, mG (4, 203) (by decide +kernel), mN (4, 221) (by decide +kernel), (by intro z hz; simp only [List.mem_cons, List.not_mem_nil, or_false] at hz; rcases hz with rfl <;> first | exact ⟨by decide, "java/util/NoSuchElementException", mG (5, 8) (by decide +kernel), by decide +kernel⟩)⟩) (fun q4 => ?_) (y_h0))))
  · refine y_i2l (v := ((v2).toInt64)) d_W_removeShip_7 rfl ?_
    refine y_last d_W_removeShip_8 (fun h5 => ?_)
    refine y_goto (tgt := 18) d_W_removeShip_9 (by decide) ?_
    refine y_iconst (v := (J 0)) d_W_removeShip_18 rfl ?_
    exact y_retI d_W_removeShip_19 rfl rfl
  · refine y_astore_n (loc2 := [some (.ref a0), some (.int a1), some (.ref a2), some (.ref q4)]) d_W_removeShip_12 (Nat.le_of_ble_eq_true rfl) rfl rfl ?_
    refine y_iconst (v := (J 1)) d_W_removeShip_13 rfl ?_
    exact y_retI d_W_removeShip_14 rfl rfl
  · refine y_astore_n (loc2 := [some (.ref a0), some (.int a1), some (.ref a2), some (.ref q4)]) d_W_removeShip_15 (Nat.le_of_ble_eq_true rfl) rfl rfl ?_
    refine y_iconst (v := (J 2)) d_W_removeShip_16 rfl ?_
    exact y_retI d_W_removeShip_17 rfl rfl
noncomputable def P_W_enter (Θ : mW) (N : Nat) (h : mH) (a0 : Nat) (a1 : Int32) (a2 : Int32) (a3 : Nat) : Option (Int32 × mH) :=
  (gO Θ h 0 a0 (bx (P_F_enter Θ N h a0 a1 a2) (fun v2 h1 => (bo (aWL Θ h1 a3 (J 0) ((v2).toInt64)) (fun h5 => (some ((J 0), h5))))) (fun n9 h3 => if n9 = 10 then (some ((J 1), h3)) else if n9 = 11 then (some ((J 2), h3)) else if n9 = 12 then (some ((J 3), h3)) else if n9 = 13 then (some ((J 4), h3)) else none)))
theorem S_W_enter (hfl : HF l Θ) (hD : 10 ≤ d) (h : mH) (a0 : Nat) (a1 : Int32) (a2 : Int32) (a3 : Nat) : mMs l Θ d M_W_enter [.ref a0, .int a1, .int a2, .ref a3] h (tR vI) (P_W_enter Θ N h a0 a1 a2 a3) := by
  refine mMs.of hfl (by decide +kernel) rfl (Nat.le_of_ble_eq_true rfl) (loc := [some (.ref a0), some (.int a1), some (.int a2), some (.ref a3), none]) rfl ?_
  unfold P_W_enter
  refine y_aload_n d_W_enter_0 rfl ?_
  refine y_iconst (v := (J 0)) d_W_enter_1 rfl ?_
  refine y_aload_n d_W_enter_2 rfl ?_
  refine y_iload_n d_W_enter_3 rfl ?_
  refine y_iload_n d_W_enter_4 rfl ?_
  refine y_gO (fun fs1 g1 => y_xI (c_vi (rest := [.int (J 0), .ref a3]) d_W_enter_5 k_F_enter s_W_23 (Or.inl ⟨_, _, _, g1, rfl, rfl⟩) rfl rfl (Nat.le_of_ble_eq_true rfl) (Nat.le_trans (Nat.le_of_ble_eq_true rfl : 9 + 1 ≤ 10) hD) (S_F_enter hfl (Nat.le_refl _) h a0 a1 a2)) (fun v2 h1 => ?_) (fun n9 h3 => y_h1 (show mCatch M_W_enter 5 10 13 from ⟨[], (0, 10, 13, 21), [(0, 10, 17, 13), (0, 10, 21, 15), (0, 10, 25, 27)], "java/util/NoSuchElementException", rfl, by decide, by decide, rfl, mG (5, 8) (by decide +kernel), mN (5, 23) (by decide +kernel), (fun z hz => absurd hz List.not_mem_nil)⟩) (fun q4 => ?_) (y_h1 (show mCatch M_W_enter 5 11 17 from ⟨[(0, 10, 13, 21)], (0, 10, 17, 13), [(0, 10, 21, 15), (0, 10, 25, 27)], "java/lang/IllegalArgumentException", rfl, by decide, by decide, rfl, mG (4, 202) (by decide +kernel), mN (3, 171) (by decide +kernel), (by intro z hz; simp only [List.mem_cons, List.not_mem_nil, or_false] at hz; rcases hz with rfl <;> first | exact ⟨by decide, "java/util/NoSuchElementException", mG (5, 8) (by decide +kernel), by decide +kernel⟩)⟩) (fun q4 => ?_) (y_h1 (show mCatch M_W_enter 5 12 21 from ⟨[(0, 10, 13, 21), (0, 10, 17, 13)], (0, 10, 21, 15), [(0, 10, 25, 27)], "java/lang/IllegalStateException", rfl, by decide, by decide, rfl, mG (4, 203) (by decide +kernel), mN (4, 221) (by decide +kernel), (by intro z hz; simp only [List.mem_cons, List.not_mem_nil, or_false] at hz; rcases hz with rfl | rfl <;> first | exact ⟨by decide, "java/util/NoSuchElementException", mG (5, 8) (by decide +kernel), by decide +kernel⟩ | exact ⟨by decide, "java/lang/IllegalArgumentException", mG (4, 202) (by decide +kernel), by decide +kernel⟩)⟩) (fun q4 => ?_) (y_h1 (show mCatch M_W_enter 5 13 25 from ⟨[(0, 10, 13, 21), (0, 10, 17, 13), (0, 10, 21, 15)], (0, 10, 25, 27), [], "java/lang/UnsupportedOperationException", rfl, by decide, by decide, rfl, mG (5, 45) (by decide +kernel), mN (5, 71) (by decide +kernel), (by intro z hz; simp only [List.mem_cons, List.not_mem_nil, or_false] at hz; rcases hz with rfl | rfl | rfl <;> first | exact ⟨by decide, "java/util/NoSuchElementException", mG (5, 8) (by decide +kernel), by decide +kernel⟩ | exact ⟨by decide, "java/lang/IllegalArgumentException", mG (4, 202) (by decide +kernel), by decide +kernel⟩ | exact ⟨by decide, "java/lang/IllegalStateException", mG (4, 203) (by decide +kernel), by decide +kernel⟩)⟩) (fun q4 => ?_) (y_h0))))))
  · refine y_i2l (v := ((v2).toInt64)) d_W_enter_8 rfl ?_
    refine y_last d_W_enter_9 (fun h5 => ?_)
    refine y_goto (tgt := 29) d_W_enter_10 (by decide) ?_
    refine y_iconst (v := (J 0)) d_W_enter_29 rfl ?_
    exact y_retI d_W_enter_30 rfl rfl
  · refine y_astore (loc2 := [some (.ref a0), some (.int a1), some (.int a2), some (.ref a3), some (.ref q4)]) d_W_enter_13 (Nat.le_of_ble_eq_true rfl) rfl rfl ?_
    refine y_iconst (v := (J 1)) d_W_enter_15 rfl ?_
    exact y_retI d_W_enter_16 rfl rfl
  · refine y_astore (loc2 := [some (.ref a0), some (.int a1), some (.int a2), some (.ref a3), some (.ref q4)]) d_W_enter_17 (Nat.le_of_ble_eq_true rfl) rfl rfl ?_
    refine y_iconst (v := (J 2)) d_W_enter_19 rfl ?_
    exact y_retI d_W_enter_20 rfl rfl
  · refine y_astore (loc2 := [some (.ref a0), some (.int a1), some (.int a2), some (.ref a3), some (.ref q4)]) d_W_enter_21 (Nat.le_of_ble_eq_true rfl) rfl rfl ?_
    refine y_iconst (v := (J 3)) d_W_enter_23 rfl ?_
    exact y_retI d_W_enter_24 rfl rfl
  · refine y_astore (loc2 := [some (.ref a0), some (.int a1), some (.int a2), some (.ref a3), some (.ref q4)]) d_W_enter_25 (Nat.le_of_ble_eq_true rfl) rfl rfl ?_
    refine y_iconst (v := (J 4)) d_W_enter_27 rfl ?_
    exact y_retI d_W_enter_28 rfl rfl
noncomputable def P_W_leave (Θ : mW) (N : Nat) (h : mH) (a0 : Nat) (a1 : Int32) (a2 : Nat) : Option (Int32 × mH) :=
  (gO Θ h 0 a0 (bx (P_F_leave Θ N h a0 a1) (fun v2 h1 => (bo (aWL Θ h1 a2 (J 0) ((v2).toInt64)) (fun h5 => (some ((J 0), h5))))) (fun n9 h3 => if n9 = 10 then (some ((J 1), h3)) else if n9 = 12 then (some ((J 2), h3)) else if n9 = 13 then (some ((J 3), h3)) else none)))
theorem S_W_leave (hfl : HF l Θ) (hD : 11 ≤ d) (h : mH) (a0 : Nat) (a1 : Int32) (a2 : Nat) : mMs l Θ d M_W_leave [.ref a0, .int a1, .ref a2] h (tR vI) (P_W_leave Θ N h a0 a1 a2) := by
  refine mMs.of hfl (by decide +kernel) rfl (Nat.le_of_ble_eq_true rfl) (loc := [some (.ref a0), some (.int a1), some (.ref a2), none]) rfl ?_
  unfold P_W_leave
  refine y_aload_n d_W_leave_0 rfl ?_
  refine y_iconst (v := (J 0)) d_W_leave_1 rfl ?_
  refine y_aload_n d_W_leave_2 rfl ?_
  refine y_iload_n d_W_leave_3 rfl ?_
  refine y_gO (fun fs1 g1 => y_xI (c_vi (rest := [.int (J 0), .ref a2]) d_W_leave_4 k_F_leave s_W_29 (Or.inl ⟨_, _, _, g1, rfl, rfl⟩) rfl rfl (Nat.le_of_ble_eq_true rfl) (Nat.le_trans (Nat.le_of_ble_eq_true rfl : 10 + 1 ≤ 11) hD) (S_F_leave hfl (Nat.le_refl _) h a0 a1)) (fun v2 h1 => ?_) (fun n9 h3 => y_h1 (show mCatch M_W_leave 4 10 12 from ⟨[], (0, 9, 12, 21), [(0, 9, 15, 15), (0, 9, 18, 27)], "java/util/NoSuchElementException", rfl, by decide, by decide, rfl, mG (5, 8) (by decide +kernel), mN (5, 23) (by decide +kernel), (fun z hz => absurd hz List.not_mem_nil)⟩) (fun q4 => ?_) (y_h1 (show mCatch M_W_leave 4 12 15 from ⟨[(0, 9, 12, 21)], (0, 9, 15, 15), [(0, 9, 18, 27)], "java/lang/IllegalStateException", rfl, by decide, by decide, rfl, mG (4, 203) (by decide +kernel), mN (4, 221) (by decide +kernel), (by intro z hz; simp only [List.mem_cons, List.not_mem_nil, or_false] at hz; rcases hz with rfl <;> first | exact ⟨by decide, "java/util/NoSuchElementException", mG (5, 8) (by decide +kernel), by decide +kernel⟩)⟩) (fun q4 => ?_) (y_h1 (show mCatch M_W_leave 4 13 18 from ⟨[(0, 9, 12, 21), (0, 9, 15, 15)], (0, 9, 18, 27), [], "java/lang/UnsupportedOperationException", rfl, by decide, by decide, rfl, mG (5, 45) (by decide +kernel), mN (5, 71) (by decide +kernel), (by intro z hz; simp only [List.mem_cons, List.not_mem_nil, or_false] at hz; rcases hz with rfl | rfl <;> first | exact ⟨by decide, "java/util/NoSuchElementException", mG (5, 8) (by decide +kernel), by decide +kernel⟩ | exact ⟨by decide, "java/lang/IllegalStateException", mG (4, 203) (by decide +kernel), by decide +kernel⟩)⟩) (fun q4 => ?_) (y_h0)))))
  · refine y_i2l (v := ((v2).toInt64)) d_W_leave_7 rfl ?_
    refine y_last d_W_leave_8 (fun h5 => ?_)
    refine y_goto (tgt := 21) d_W_leave_9 (by decide) ?_
    refine y_iconst (v := (J 0)) d_W_leave_21 rfl ?_
    exact y_retI d_W_leave_22 rfl rfl
  · refine y_astore_n (loc2 := [some (.ref a0), some (.int a1), some (.ref a2), some (.ref q4)]) d_W_leave_12 (Nat.le_of_ble_eq_true rfl) rfl rfl ?_
    refine y_iconst (v := (J 1)) d_W_leave_13 rfl ?_
    exact y_retI d_W_leave_14 rfl rfl
  · refine y_astore_n (loc2 := [some (.ref a0), some (.int a1), some (.ref a2), some (.ref q4)]) d_W_leave_15 (Nat.le_of_ble_eq_true rfl) rfl rfl ?_
    refine y_iconst (v := (J 2)) d_W_leave_16 rfl ?_
    exact y_retI d_W_leave_17 rfl rfl
  · refine y_astore_n (loc2 := [some (.ref a0), some (.int a1), some (.ref a2), some (.ref q4)]) d_W_leave_18 (Nat.le_of_ble_eq_true rfl) rfl rfl ?_
    refine y_iconst (v := (J 3)) d_W_leave_19 rfl ?_
    exact y_retI d_W_leave_20 rfl rfl
noncomputable def P_W_setCleaning (Θ : mW) (N : Nat) (h : mH) (a0 : Nat) (a1 : Int32) (a2 : Int32) (a3 : Nat) : Option (Int32 × mH) :=
  (gO Θ h 0 a0 (bx (P_F_setCleaning Θ N h a0 a1 a2) (fun v2 h1 => (jn (fun (h6 : mH) (s7 : Int64) => (bo (aWL Θ h6 a3 (J 0) s7) (fun h8 => (some ((J 0), h8))))) (fun j5 => (if v2 = 0 then (j5 h1 (0 : Int64)) else (j5 h1 (1 : Int64)))))) (fun n9 h3 => if n9 = 10 then (some ((J 1), h3)) else if n9 = 12 then (some ((J 2), h3)) else none)))
theorem S_W_setCleaning (hfl : HF l Θ) (hD : 10 ≤ d) (h : mH) (a0 : Nat) (a1 : Int32) (a2 : Int32) (a3 : Nat) : mMs l Θ d M_W_setCleaning [.ref a0, .int a1, .int a2, .ref a3] h (tR vI) (P_W_setCleaning Θ N h a0 a1 a2 a3) := by
  refine mMs.of hfl (by decide +kernel) rfl (Nat.le_of_ble_eq_true rfl) (loc := [some (.ref a0), some (.int a1), some (.int a2), some (.ref a3), none]) rfl ?_
  unfold P_W_setCleaning
  refine y_aload_n d_W_setCleaning_0 rfl ?_
  refine y_iconst (v := (J 0)) d_W_setCleaning_1 rfl ?_
  refine y_aload_n d_W_setCleaning_2 rfl ?_
  refine y_iload_n d_W_setCleaning_3 rfl ?_
  refine y_iload_n d_W_setCleaning_4 rfl ?_
  refine y_gO (fun fs1 g1 => y_xI (c_vi (rest := [.int (J 0), .ref a3]) d_W_setCleaning_5 k_F_setCleaning s_W_32 (Or.inl ⟨_, _, _, g1, rfl, rfl⟩) rfl rfl (Nat.le_of_ble_eq_true rfl) (Nat.le_trans (Nat.le_of_ble_eq_true rfl : 9 + 1 ≤ 10) hD) (S_F_setCleaning hfl (Nat.le_refl _) h a0 a1 a2)) (fun v2 h1 => ?_) (fun n9 h3 => y_h1 (show mCatch M_W_setCleaning 5 10 20 from ⟨[], (0, 17, 20, 21), [(0, 17, 24, 15)], "java/util/NoSuchElementException", rfl, by decide, by decide, rfl, mG (5, 8) (by decide +kernel), mN (5, 23) (by decide +kernel), (fun z hz => absurd hz List.not_mem_nil)⟩) (fun q4 => ?_) (y_h1 (show mCatch M_W_setCleaning 5 12 24 from ⟨[(0, 17, 20, 21)], (0, 17, 24, 15), [], "java/lang/IllegalStateException", rfl, by decide, by decide, rfl, mG (4, 203) (by decide +kernel), mN (4, 221) (by decide +kernel), (by intro z hz; simp only [List.mem_cons, List.not_mem_nil, or_false] at hz; rcases hz with rfl <;> first | exact ⟨by decide, "java/util/NoSuchElementException", mG (5, 8) (by decide +kernel), by decide +kernel⟩)⟩) (fun q4 => ?_) (y_h0))))
  · refine y_jn (C := fun (j9 : mH → Int64 → Option (Int32 × mH)) => ∀ (h6 : mH) (s7 : Int64), mY l Θ d M_W_setCleaning 16 [none, none, none, none, none] [.long s7, .int (J 0), .ref a3] h6 (tR vI) (j9 h6 s7)) (fun h6 s7 => ?_) (fun j5 Hj5 => ?_)
    · refine y_last d_W_setCleaning_16 (fun h8 => ?_)
      refine y_goto (tgt := 28) d_W_setCleaning_17 (by decide) ?_
      refine y_iconst (v := (J 0)) d_W_setCleaning_28 rfl ?_
      exact y_retI d_W_setCleaning_29 rfl rfl
    · refine y_if_eq (tgt := 15) d_W_setCleaning_8 (by decide) ?_ ?_
      · refine y_lconst (v := (0 : Int64)) d_W_setCleaning_15 (by decide) ?_
        exact y_wk (loc2 := [none, none, none, none, none]) trivial (Hj5 h1 (0 : Int64))
      · refine y_lconst (v := (1 : Int64)) d_W_setCleaning_11 (by decide) ?_
        refine y_goto (tgt := 16) d_W_setCleaning_12 (by decide) ?_
        exact y_wk (loc2 := [none, none, none, none, none]) trivial (Hj5 h1 (1 : Int64))
  · refine y_astore (loc2 := [some (.ref a0), some (.int a1), some (.int a2), some (.ref a3), some (.ref q4)]) d_W_setCleaning_20 (Nat.le_of_ble_eq_true rfl) rfl rfl ?_
    refine y_iconst (v := (J 1)) d_W_setCleaning_22 rfl ?_
    exact y_retI d_W_setCleaning_23 rfl rfl
  · refine y_astore (loc2 := [some (.ref a0), some (.int a1), some (.int a2), some (.ref a3), some (.ref q4)]) d_W_setCleaning_24 (Nat.le_of_ble_eq_true rfl) rfl rfl ?_
    refine y_iconst (v := (J 2)) d_W_setCleaning_26 rfl ?_
    exact y_retI d_W_setCleaning_27 rfl rfl
noncomputable def P_W_shipAt (Θ : mW) (N : Nat) (h : mH) (a0 : Nat) (a1 : Int32) (a2 : Nat) : Option (Int32 × mH) :=
  (gO Θ h 0 a0 (bx (P_F_shipAt Θ N h a0 a1) (fun v2 h1 => (bo (aWL Θ h1 a2 (J 0) ((v2).toInt64)) (fun h5 => (some ((J 0), h5))))) (fun n9 h3 => if n9 = 14 then (some ((J 1), h3)) else none)))
theorem S_W_shipAt (hfl : HF l Θ) (hD : 7 ≤ d) (h : mH) (a0 : Nat) (a1 : Int32) (a2 : Nat) : mMs l Θ d M_W_shipAt [.ref a0, .int a1, .ref a2] h (tR vI) (P_W_shipAt Θ N h a0 a1 a2) := by
  refine mMs.of hfl (by decide +kernel) rfl (Nat.le_of_ble_eq_true rfl) (loc := [some (.ref a0), some (.int a1), some (.ref a2), none]) rfl ?_
  unfold P_W_shipAt
  refine y_aload_n d_W_shipAt_0 rfl ?_
  refine y_iconst (v := (J 0)) d_W_shipAt_1 rfl ?_
  refine y_aload_n d_W_shipAt_2 rfl ?_
  refine y_iload_n d_W_shipAt_3 rfl ?_
  refine y_gO (fun fs1 g1 => y_xI (c_vi (rest := [.int (J 0), .ref a2]) d_W_shipAt_4 k_F_shipAt s_W_36 (Or.inl ⟨_, _, _, g1, rfl, rfl⟩) rfl rfl (Nat.le_of_ble_eq_true rfl) (Nat.le_trans (Nat.le_of_ble_eq_true rfl : 6 + 1 ≤ 7) hD) (S_F_shipAt hfl (Nat.le_refl _) h a0 a1)) (fun v2 h1 => ?_) (fun n9 h3 => y_h1 (show mCatch M_W_shipAt 4 14 12 from ⟨[], (0, 9, 12, 39), [], "java/lang/IndexOutOfBoundsException", rfl, by decide, by decide, rfl, mG (5, 141) (by decide +kernel), mN (5, 150) (by decide +kernel), (fun z hz => absurd hz List.not_mem_nil)⟩) (fun q4 => ?_) (y_h0)))
  · refine y_i2l (v := ((v2).toInt64)) d_W_shipAt_7 rfl ?_
    refine y_last d_W_shipAt_8 (fun h5 => ?_)
    refine y_goto (tgt := 15) d_W_shipAt_9 (by decide) ?_
    refine y_iconst (v := (J 0)) d_W_shipAt_15 rfl ?_
    exact y_retI d_W_shipAt_16 rfl rfl
  · refine y_astore_n (loc2 := [some (.ref a0), some (.int a1), some (.ref a2), some (.ref q4)]) d_W_shipAt_12 (Nat.le_of_ble_eq_true rfl) rfl rfl ?_
    refine y_iconst (v := (J 1)) d_W_shipAt_13 rfl ?_
    exact y_retI d_W_shipAt_14 rfl rfl
noncomputable def P_W_isInDock (Θ : mW) (N : Nat) (h : mH) (a0 : Nat) (a1 : Int32) (a2 : Nat) : Option (Int32 × mH) :=
  (gO Θ h 0 a0 (bx (P_F_isInDock Θ N h a0 a1) (fun v2 h1 => (jn (fun (h6 : mH) (s7 : Int64) => (bo (aWL Θ h6 a2 (J 0) s7) (fun h8 => (some ((J 0), h8))))) (fun j5 => (if v2 = 0 then (j5 h1 (0 : Int64)) else (j5 h1 (1 : Int64)))))) (fun n9 h3 => if n9 = 10 then (some ((J 1), h3)) else none)))
theorem S_W_isInDock (hfl : HF l Θ) (hD : 8 ≤ d) (h : mH) (a0 : Nat) (a1 : Int32) (a2 : Nat) : mMs l Θ d M_W_isInDock [.ref a0, .int a1, .ref a2] h (tR vI) (P_W_isInDock Θ N h a0 a1 a2) := by
  refine mMs.of hfl (by decide +kernel) rfl (Nat.le_of_ble_eq_true rfl) (loc := [some (.ref a0), some (.int a1), some (.ref a2), none]) rfl ?_
  unfold P_W_isInDock
  refine y_aload_n d_W_isInDock_0 rfl ?_
  refine y_iconst (v := (J 0)) d_W_isInDock_1 rfl ?_
  refine y_aload_n d_W_isInDock_2 rfl ?_
  refine y_iload_n d_W_isInDock_3 rfl ?_
  refine y_gO (fun fs1 g1 => y_xI (c_vi (rest := [.int (J 0), .ref a2]) d_W_isInDock_4 k_F_isInDock s_W_41 (Or.inl ⟨_, _, _, g1, rfl, rfl⟩) rfl rfl (Nat.le_of_ble_eq_true rfl) (Nat.le_trans (Nat.le_of_ble_eq_true rfl : 7 + 1 ≤ 8) hD) (S_F_isInDock hfl (Nat.le_refl _) h a0 a1)) (fun v2 h1 => ?_) (fun n9 h3 => y_h1 (show mCatch M_W_isInDock 4 10 19 from ⟨[], (0, 16, 19, 21), [], "java/util/NoSuchElementException", rfl, by decide, by decide, rfl, mG (5, 8) (by decide +kernel), mN (5, 23) (by decide +kernel), (fun z hz => absurd hz List.not_mem_nil)⟩) (fun q4 => ?_) (y_h0)))
  · refine y_jn (C := fun (j9 : mH → Int64 → Option (Int32 × mH)) => ∀ (h6 : mH) (s7 : Int64), mY l Θ d M_W_isInDock 15 [none, none, none, none] [.long s7, .int (J 0), .ref a2] h6 (tR vI) (j9 h6 s7)) (fun h6 s7 => ?_) (fun j5 Hj5 => ?_)
    · refine y_last d_W_isInDock_15 (fun h8 => ?_)
      refine y_goto (tgt := 22) d_W_isInDock_16 (by decide) ?_
      refine y_iconst (v := (J 0)) d_W_isInDock_22 rfl ?_
      exact y_retI d_W_isInDock_23 rfl rfl
    · refine y_if_eq (tgt := 14) d_W_isInDock_7 (by decide) ?_ ?_
      · refine y_lconst (v := (0 : Int64)) d_W_isInDock_14 (by decide) ?_
        exact y_wk (loc2 := [none, none, none, none]) trivial (Hj5 h1 (0 : Int64))
      · refine y_lconst (v := (1 : Int64)) d_W_isInDock_10 (by decide) ?_
        refine y_goto (tgt := 15) d_W_isInDock_11 (by decide) ?_
        exact y_wk (loc2 := [none, none, none, none]) trivial (Hj5 h1 (1 : Int64))
  · refine y_astore_n (loc2 := [some (.ref a0), some (.int a1), some (.ref a2), some (.ref q4)]) d_W_isInDock_19 (Nat.le_of_ble_eq_true rfl) rfl rfl ?_
    refine y_iconst (v := (J 1)) d_W_isInDock_20 rfl ?_
    exact y_retI d_W_isInDock_21 rfl rfl
noncomputable def P_W_positionOf (Θ : mW) (N : Nat) (h : mH) (a0 : Nat) (a1 : Int32) (a2 : Nat) : Option (Int32 × mH) :=
  (gO Θ h 0 a0 (bx (P_F_positionOf Θ N h a0 a1) (fun v2 h1 => (bo (aWL Θ h1 a2 (J 0) ((v2).toInt64)) (fun h5 => (some ((J 0), h5))))) (fun n9 h3 => if n9 = 10 then (some ((J 1), h3)) else if n9 = 12 then (some ((J 2), h3)) else none)))
theorem S_W_positionOf (hfl : HF l Θ) (hD : 9 ≤ d) (h : mH) (a0 : Nat) (a1 : Int32) (a2 : Nat) : mMs l Θ d M_W_positionOf [.ref a0, .int a1, .ref a2] h (tR vI) (P_W_positionOf Θ N h a0 a1 a2) := by
  refine mMs.of hfl (by decide +kernel) rfl (Nat.le_of_ble_eq_true rfl) (loc := [some (.ref a0), some (.int a1), some (.ref a2), none]) rfl ?_
  unfold P_W_positionOf
  refine y_aload_n d_W_positionOf_0 rfl ?_
  refine y_iconst (v := (J 0)) d_W_positionOf_1 rfl ?_
  refine y_aload_n d_W_positionOf_2 rfl ?_
  refine y_iload_n d_W_positionOf_3 rfl ?_
  refine y_gO (fun fs1 g1 => y_xI (c_vi (rest := [.int (J 0), .ref a2]) d_W_positionOf_4 k_F_positionOf s_W_45 (Or.inl ⟨_, _, _, g1, rfl, rfl⟩) rfl rfl (Nat.le_of_ble_eq_true rfl) (Nat.le_trans (Nat.le_of_ble_eq_true rfl : 8 + 1 ≤ 9) hD) (S_F_positionOf hfl (Nat.le_refl _) h a0 a1)) (fun v2 h1 => ?_) (fun n9 h3 => y_h1 (show mCatch M_W_positionOf 4 10 12 from ⟨[], (0, 9, 12, 21), [(0, 9, 15, 15)], "java/util/NoSuchElementException", rfl, by decide, by decide, rfl, mG (5, 8) (by decide +kernel), mN (5, 23) (by decide +kernel), (fun z hz => absurd hz List.not_mem_nil)⟩) (fun q4 => ?_) (y_h1 (show mCatch M_W_positionOf 4 12 15 from ⟨[(0, 9, 12, 21)], (0, 9, 15, 15), [], "java/lang/IllegalStateException", rfl, by decide, by decide, rfl, mG (4, 203) (by decide +kernel), mN (4, 221) (by decide +kernel), (by intro z hz; simp only [List.mem_cons, List.not_mem_nil, or_false] at hz; rcases hz with rfl <;> first | exact ⟨by decide, "java/util/NoSuchElementException", mG (5, 8) (by decide +kernel), by decide +kernel⟩)⟩) (fun q4 => ?_) (y_h0))))
  · refine y_i2l (v := ((v2).toInt64)) d_W_positionOf_7 rfl ?_
    refine y_last d_W_positionOf_8 (fun h5 => ?_)
    refine y_goto (tgt := 18) d_W_positionOf_9 (by decide) ?_
    refine y_iconst (v := (J 0)) d_W_positionOf_18 rfl ?_
    exact y_retI d_W_positionOf_19 rfl rfl
  · refine y_astore_n (loc2 := [some (.ref a0), some (.int a1), some (.ref a2), some (.ref q4)]) d_W_positionOf_12 (Nat.le_of_ble_eq_true rfl) rfl rfl ?_
    refine y_iconst (v := (J 1)) d_W_positionOf_13 rfl ?_
    exact y_retI d_W_positionOf_14 rfl rfl
  · refine y_astore_n (loc2 := [some (.ref a0), some (.int a1), some (.ref a2), some (.ref q4)]) d_W_positionOf_15 (Nat.le_of_ble_eq_true rfl) rfl rfl ?_
    refine y_iconst (v := (J 2)) d_W_positionOf_16 rfl ?_
    exact y_retI d_W_positionOf_17 rfl rfl
noncomputable def P_W_dirtOf (Θ : mW) (N : Nat) (h : mH) (a0 : Nat) (a1 : Int32) (a2 : Nat) : Option (Int32 × mH) :=
  (gO Θ h 0 a0 (bx (P_F_dirtOf Θ N h a0 a1) (fun v2 h1 => (bo (aWL Θ h1 a2 (J 0) ((v2).toInt64)) (fun h5 => (some ((J 0), h5))))) (fun n9 h3 => if n9 = 10 then (some ((J 1), h3)) else none)))
theorem S_W_dirtOf (hfl : HF l Θ) (hD : 8 ≤ d) (h : mH) (a0 : Nat) (a1 : Int32) (a2 : Nat) : mMs l Θ d M_W_dirtOf [.ref a0, .int a1, .ref a2] h (tR vI) (P_W_dirtOf Θ N h a0 a1 a2) := by
  refine mMs.of hfl (by decide +kernel) rfl (Nat.le_of_ble_eq_true rfl) (loc := [some (.ref a0), some (.int a1), some (.ref a2), none]) rfl ?_
  unfold P_W_dirtOf
  refine y_aload_n d_W_dirtOf_0 rfl ?_
  refine y_iconst (v := (J 0)) d_W_dirtOf_1 rfl ?_
  refine y_aload_n d_W_dirtOf_2 rfl ?_
  refine y_iload_n d_W_dirtOf_3 rfl ?_
  refine y_gO (fun fs1 g1 => y_xI (c_vi (rest := [.int (J 0), .ref a2]) d_W_dirtOf_4 k_F_dirtOf s_W_48 (Or.inl ⟨_, _, _, g1, rfl, rfl⟩) rfl rfl (Nat.le_of_ble_eq_true rfl) (Nat.le_trans (Nat.le_of_ble_eq_true rfl : 7 + 1 ≤ 8) hD) (S_F_dirtOf hfl (Nat.le_refl _) h a0 a1)) (fun v2 h1 => ?_) (fun n9 h3 => y_h1 (show mCatch M_W_dirtOf 4 10 12 from ⟨[], (0, 9, 12, 21), [], "java/util/NoSuchElementException", rfl, by decide, by decide, rfl, mG (5, 8) (by decide +kernel), mN (5, 23) (by decide +kernel), (fun z hz => absurd hz List.not_mem_nil)⟩) (fun q4 => ?_) (y_h0)))
  · refine y_i2l (v := ((v2).toInt64)) d_W_dirtOf_7 rfl ?_
    refine y_last d_W_dirtOf_8 (fun h5 => ?_)
    refine y_goto (tgt := 15) d_W_dirtOf_9 (by decide) ?_
    refine y_iconst (v := (J 0)) d_W_dirtOf_15 rfl ?_
    exact y_retI d_W_dirtOf_16 rfl rfl
  · refine y_astore_n (loc2 := [some (.ref a0), some (.int a1), some (.ref a2), some (.ref q4)]) d_W_dirtOf_12 (Nat.le_of_ble_eq_true rfl) rfl rfl ?_
    refine y_iconst (v := (J 1)) d_W_dirtOf_13 rfl ?_
    exact y_retI d_W_dirtOf_14 rfl rfl
noncomputable def P_W_damageOf (Θ : mW) (N : Nat) (h : mH) (a0 : Nat) (a1 : Int32) (a2 : Nat) : Option (Int32 × mH) :=
  (gO Θ h 0 a0 (bx (P_F_damageOf Θ N h a0 a1) (fun v2 h1 => (bo (aWL Θ h1 a2 (J 0) ((v2).toInt64)) (fun h5 => (some ((J 0), h5))))) (fun n9 h3 => if n9 = 10 then (some ((J 1), h3)) else none)))
theorem S_W_damageOf (hfl : HF l Θ) (hD : 8 ≤ d) (h : mH) (a0 : Nat) (a1 : Int32) (a2 : Nat) : mMs l Θ d M_W_damageOf [.ref a0, .int a1, .ref a2] h (tR vI) (P_W_damageOf Θ N h a0 a1 a2) := by
  refine mMs.of hfl (by decide +kernel) rfl (Nat.le_of_ble_eq_true rfl) (loc := [some (.ref a0), some (.int a1), some (.ref a2), none]) rfl ?_
  unfold P_W_damageOf
  refine y_aload_n d_W_damageOf_0 rfl ?_
  refine y_iconst (v := (J 0)) d_W_damageOf_1 rfl ?_
  refine y_aload_n d_W_damageOf_2 rfl ?_
  refine y_iload_n d_W_damageOf_3 rfl ?_
  refine y_gO (fun fs1 g1 => y_xI (c_vi (rest := [.int (J 0), .ref a2]) d_W_damageOf_4 k_F_damageOf s_W_51 (Or.inl ⟨_, _, _, g1, rfl, rfl⟩) rfl rfl (Nat.le_of_ble_eq_true rfl) (Nat.le_trans (Nat.le_of_ble_eq_true rfl : 7 + 1 ≤ 8) hD) (S_F_damageOf hfl (Nat.le_refl _) h a0 a1)) (fun v2 h1 => ?_) (fun n9 h3 => y_h1 (show mCatch M_W_damageOf 4 10 12 from ⟨[], (0, 9, 12, 21), [], "java/util/NoSuchElementException", rfl, by decide, by decide, rfl, mG (5, 8) (by decide +kernel), mN (5, 23) (by decide +kernel), (fun z hz => absurd hz List.not_mem_nil)⟩) (fun q4 => ?_) (y_h0)))
  · refine y_i2l (v := ((v2).toInt64)) d_W_damageOf_7 rfl ?_
    refine y_last d_W_damageOf_8 (fun h5 => ?_)
    refine y_goto (tgt := 15) d_W_damageOf_9 (by decide) ?_
    refine y_iconst (v := (J 0)) d_W_damageOf_15 rfl ?_
    exact y_retI d_W_damageOf_16 rfl rfl
  · refine y_astore_n (loc2 := [some (.ref a0), some (.int a1), some (.ref a2), some (.ref q4)]) d_W_damageOf_12 (Nat.le_of_ble_eq_true rfl) rfl rfl ?_
    refine y_iconst (v := (J 1)) d_W_damageOf_13 rfl ?_
    exact y_retI d_W_damageOf_14 rfl rfl
noncomputable def P_W_hoursAfloat (Θ : mW) (N : Nat) (h : mH) (a0 : Nat) (a1 : Int32) (a2 : Nat) : Option (Int32 × mH) :=
  (gO Θ h 0 a0 (bx (P_F_hoursAfloat Θ N h a0 a1) (fun v2 h1 => (bo (aWL Θ h1 a2 (J 0) ((v2).toInt64)) (fun h5 => (some ((J 0), h5))))) (fun n9 h3 => if n9 = 10 then (some ((J 1), h3)) else none)))
theorem S_W_hoursAfloat (hfl : HF l Θ) (hD : 8 ≤ d) (h : mH) (a0 : Nat) (a1 : Int32) (a2 : Nat) : mMs l Θ d M_W_hoursAfloat [.ref a0, .int a1, .ref a2] h (tR vI) (P_W_hoursAfloat Θ N h a0 a1 a2) := by
  refine mMs.of hfl (by decide +kernel) rfl (Nat.le_of_ble_eq_true rfl) (loc := [some (.ref a0), some (.int a1), some (.ref a2), none]) rfl ?_
  unfold P_W_hoursAfloat
  refine y_aload_n d_W_hoursAfloat_0 rfl ?_
  refine y_iconst (v := (J 0)) d_W_hoursAfloat_1 rfl ?_
  refine y_aload_n d_W_hoursAfloat_2 rfl ?_
  refine y_iload_n d_W_hoursAfloat_3 rfl ?_
  refine y_gO (fun fs1 g1 => y_xI (c_vi (rest := [.int (J 0), .ref a2]) d_W_hoursAfloat_4 k_F_hoursAfloat s_W_54 (Or.inl ⟨_, _, _, g1, rfl, rfl⟩) rfl rfl (Nat.le_of_ble_eq_true rfl) (Nat.le_trans (Nat.le_of_ble_eq_true rfl : 7 + 1 ≤ 8) hD) (S_F_hoursAfloat hfl (Nat.le_refl _) h a0 a1)) (fun v2 h1 => ?_) (fun n9 h3 => y_h1 (show mCatch M_W_hoursAfloat 4 10 12 from ⟨[], (0, 9, 12, 21), [], "java/util/NoSuchElementException", rfl, by decide, by decide, rfl, mG (5, 8) (by decide +kernel), mN (5, 23) (by decide +kernel), (fun z hz => absurd hz List.not_mem_nil)⟩) (fun q4 => ?_) (y_h0)))
  · refine y_i2l (v := ((v2).toInt64)) d_W_hoursAfloat_7 rfl ?_
    refine y_last d_W_hoursAfloat_8 (fun h5 => ?_)
    refine y_goto (tgt := 15) d_W_hoursAfloat_9 (by decide) ?_
    refine y_iconst (v := (J 0)) d_W_hoursAfloat_15 rfl ?_
    exact y_retI d_W_hoursAfloat_16 rfl rfl
  · refine y_astore_n (loc2 := [some (.ref a0), some (.int a1), some (.ref a2), some (.ref q4)]) d_W_hoursAfloat_12 (Nat.le_of_ble_eq_true rfl) rfl rfl ?_
    refine y_iconst (v := (J 1)) d_W_hoursAfloat_13 rfl ?_
    exact y_retI d_W_hoursAfloat_14 rfl rfl
noncomputable def P_W_isAfloat (Θ : mW) (N : Nat) (h : mH) (a0 : Nat) (a1 : Int32) (a2 : Nat) : Option (Int32 × mH) :=
  (gO Θ h 0 a0 (bx (P_F_isAfloat Θ N h a0 a1) (fun v2 h1 => (jn (fun (h6 : mH) (s7 : Int64) => (bo (aWL Θ h6 a2 (J 0) s7) (fun h8 => (some ((J 0), h8))))) (fun j5 => (if v2 = 0 then (j5 h1 (0 : Int64)) else (j5 h1 (1 : Int64)))))) (fun n9 h3 => if n9 = 10 then (some ((J 1), h3)) else none)))
theorem S_W_isAfloat (hfl : HF l Θ) (hD : 8 ≤ d) (h : mH) (a0 : Nat) (a1 : Int32) (a2 : Nat) : mMs l Θ d M_W_isAfloat [.ref a0, .int a1, .ref a2] h (tR vI) (P_W_isAfloat Θ N h a0 a1 a2) := by
  refine mMs.of hfl (by decide +kernel) rfl (Nat.le_of_ble_eq_true rfl) (loc := [some (.ref a0), some (.int a1), some (.ref a2), none]) rfl ?_
  unfold P_W_isAfloat
  refine y_aload_n d_W_isAfloat_0 rfl ?_
  refine y_iconst (v := (J 0)) d_W_isAfloat_1 rfl ?_
  refine y_aload_n d_W_isAfloat_2 rfl ?_
  refine y_iload_n d_W_isAfloat_3 rfl ?_
  refine y_gO (fun fs1 g1 => y_xI (c_vi (rest := [.int (J 0), .ref a2]) d_W_isAfloat_4 k_F_isAfloat s_W_57 (Or.inl ⟨_, _, _, g1, rfl, rfl⟩) rfl rfl (Nat.le_of_ble_eq_true rfl) (Nat.le_trans (Nat.le_of_ble_eq_true rfl : 7 + 1 ≤ 8) hD) (S_F_isAfloat hfl (Nat.le_refl _) h a0 a1)) (fun v2 h1 => ?_) (fun n9 h3 => y_h1 (show mCatch M_W_isAfloat 4 10 19 from ⟨[], (0, 16, 19, 21), [], "java/util/NoSuchElementException", rfl, by decide, by decide, rfl, mG (5, 8) (by decide +kernel), mN (5, 23) (by decide +kernel), (fun z hz => absurd hz List.not_mem_nil)⟩) (fun q4 => ?_) (y_h0)))
  · refine y_jn (C := fun (j9 : mH → Int64 → Option (Int32 × mH)) => ∀ (h6 : mH) (s7 : Int64), mY l Θ d M_W_isAfloat 15 [none, none, none, none] [.long s7, .int (J 0), .ref a2] h6 (tR vI) (j9 h6 s7)) (fun h6 s7 => ?_) (fun j5 Hj5 => ?_)
    · refine y_last d_W_isAfloat_15 (fun h8 => ?_)
      refine y_goto (tgt := 22) d_W_isAfloat_16 (by decide) ?_
      refine y_iconst (v := (J 0)) d_W_isAfloat_22 rfl ?_
      exact y_retI d_W_isAfloat_23 rfl rfl
    · refine y_if_eq (tgt := 14) d_W_isAfloat_7 (by decide) ?_ ?_
      · refine y_lconst (v := (0 : Int64)) d_W_isAfloat_14 (by decide) ?_
        exact y_wk (loc2 := [none, none, none, none]) trivial (Hj5 h1 (0 : Int64))
      · refine y_lconst (v := (1 : Int64)) d_W_isAfloat_10 (by decide) ?_
        refine y_goto (tgt := 15) d_W_isAfloat_11 (by decide) ?_
        exact y_wk (loc2 := [none, none, none, none]) trivial (Hj5 h1 (1 : Int64))
  · refine y_astore_n (loc2 := [some (.ref a0), some (.int a1), some (.ref a2), some (.ref q4)]) d_W_isAfloat_19 (Nat.le_of_ble_eq_true rfl) rfl rfl ?_
    refine y_iconst (v := (J 1)) d_W_isAfloat_20 rfl ?_
    exact y_retI d_W_isAfloat_21 rfl rfl
noncomputable def P_W_refusalReason (Θ : mW) (N : Nat) (h : mH) (a0 : Nat) (a1 : Nat) : Option (Int32 × mH) :=
  (gO Θ h 0 a0 (bx (P_F_refusalReason Θ N h a0) (fun v2 h1 => (bo (aWL Θ h1 a1 (J 0) ((v2).toInt64)) (fun h5 => (some ((J 0), h5))))) (fun n9 h3 => if n9 = 10 then (some ((J 1), h3)) else none)))
theorem S_W_refusalReason (hfl : HF l Θ) (hD : 7 ≤ d) (h : mH) (a0 : Nat) (a1 : Nat) : mMs l Θ d M_W_refusalReason [.ref a0, .ref a1] h (tR vI) (P_W_refusalReason Θ N h a0 a1) := by
  refine mMs.of hfl (by decide +kernel) rfl (Nat.le_of_ble_eq_true rfl) (loc := [some (.ref a0), some (.ref a1), none]) rfl ?_
  unfold P_W_refusalReason
  refine y_aload_n d_W_refusalReason_0 rfl ?_
  refine y_iconst (v := (J 0)) d_W_refusalReason_1 rfl ?_
  refine y_aload_n d_W_refusalReason_2 rfl ?_
  refine y_gO (fun fs1 g1 => y_xI (c_vi (rest := [.int (J 0), .ref a1]) d_W_refusalReason_3 k_F_refusalReason s_W_60 (Or.inl ⟨_, _, _, g1, rfl, rfl⟩) rfl rfl (Nat.le_of_ble_eq_true rfl) (Nat.le_trans (Nat.le_of_ble_eq_true rfl : 6 + 1 ≤ 7) hD) (S_F_refusalReason hfl (Nat.le_refl _) h a0)) (fun v2 h1 => ?_) (fun n9 h3 => y_h1 (show mCatch M_W_refusalReason 3 10 11 from ⟨[], (0, 8, 11, 21), [], "java/util/NoSuchElementException", rfl, by decide, by decide, rfl, mG (5, 8) (by decide +kernel), mN (5, 23) (by decide +kernel), (fun z hz => absurd hz List.not_mem_nil)⟩) (fun q4 => ?_) (y_h0)))
  · refine y_i2l (v := ((v2).toInt64)) d_W_refusalReason_6 rfl ?_
    refine y_last d_W_refusalReason_7 (fun h5 => ?_)
    refine y_goto (tgt := 14) d_W_refusalReason_8 (by decide) ?_
    refine y_iconst (v := (J 0)) d_W_refusalReason_14 rfl ?_
    exact y_retI d_W_refusalReason_15 rfl rfl
  · refine y_astore_n (loc2 := [some (.ref a0), some (.ref a1), some (.ref q4)]) d_W_refusalReason_11 (Nat.le_of_ble_eq_true rfl) rfl rfl ?_
    refine y_iconst (v := (J 1)) d_W_refusalReason_12 rfl ?_
    exact y_retI d_W_refusalReason_13 rfl rfl
noncomputable def P_W_setGate (Θ : mW) (N : Nat) (h : mH) (a0 : Nat) (a1 : Int32) (a2 : Nat) : Option (Int32 × mH) :=
  (gO Θ h 0 a0 (bx (P_F_setGate Θ N h a0 a1) (fun v2 h1 => (jn (fun (h6 : mH) (s7 : Int64) => (bo (aWL Θ h6 a2 (J 0) s7) (fun h8 => (some ((J 0), h8))))) (fun j5 => (if v2 = 0 then (j5 h1 (0 : Int64)) else (j5 h1 (1 : Int64)))))) (fun n9 h3 => if n9 = 13 then (some ((J 1), h3)) else none)))
theorem S_W_setGate (hfl : HF l Θ) (hD : 8 ≤ d) (h : mH) (a0 : Nat) (a1 : Int32) (a2 : Nat) : mMs l Θ d M_W_setGate [.ref a0, .int a1, .ref a2] h (tR vI) (P_W_setGate Θ N h a0 a1 a2) := by
  refine mMs.of hfl (by decide +kernel) rfl (Nat.le_of_ble_eq_true rfl) (loc := [some (.ref a0), some (.int a1), some (.ref a2), none]) rfl ?_
  unfold P_W_setGate
  refine y_aload_n d_W_setGate_0 rfl ?_
  refine y_iconst (v := (J 0)) d_W_setGate_1 rfl ?_
  refine y_aload_n d_W_setGate_2 rfl ?_
  refine y_iload_n d_W_setGate_3 rfl ?_
  refine y_gO (fun fs1 g1 => y_xI (c_vi (rest := [.int (J 0), .ref a2]) d_W_setGate_4 k_F_setGate s_W_64 (Or.inl ⟨_, _, _, g1, rfl, rfl⟩) rfl rfl (Nat.le_of_ble_eq_true rfl) (Nat.le_trans (Nat.le_of_ble_eq_true rfl : 7 + 1 ≤ 8) hD) (S_F_setGate hfl (Nat.le_refl _) h a0 a1)) (fun v2 h1 => ?_) (fun n9 h3 => y_h1 (show mCatch M_W_setGate 4 13 19 from ⟨[], (0, 16, 19, 27), [], "java/lang/UnsupportedOperationException", rfl, by decide, by decide, rfl, mG (5, 45) (by decide +kernel), mN (5, 71) (by decide +kernel), (fun z hz => absurd hz List.not_mem_nil)⟩) (fun q4 => ?_) (y_h0)))
  · refine y_jn (C := fun (j9 : mH → Int64 → Option (Int32 × mH)) => ∀ (h6 : mH) (s7 : Int64), mY l Θ d M_W_setGate 15 [none, none, none, none] [.long s7, .int (J 0), .ref a2] h6 (tR vI) (j9 h6 s7)) (fun h6 s7 => ?_) (fun j5 Hj5 => ?_)
    · refine y_last d_W_setGate_15 (fun h8 => ?_)
      refine y_goto (tgt := 22) d_W_setGate_16 (by decide) ?_
      refine y_iconst (v := (J 0)) d_W_setGate_22 rfl ?_
      exact y_retI d_W_setGate_23 rfl rfl
    · refine y_if_eq (tgt := 14) d_W_setGate_7 (by decide) ?_ ?_
      · refine y_lconst (v := (0 : Int64)) d_W_setGate_14 (by decide) ?_
        exact y_wk (loc2 := [none, none, none, none]) trivial (Hj5 h1 (0 : Int64))
      · refine y_lconst (v := (1 : Int64)) d_W_setGate_10 (by decide) ?_
        refine y_goto (tgt := 15) d_W_setGate_11 (by decide) ?_
        exact y_wk (loc2 := [none, none, none, none]) trivial (Hj5 h1 (1 : Int64))
  · refine y_astore_n (loc2 := [some (.ref a0), some (.int a1), some (.ref a2), some (.ref q4)]) d_W_setGate_19 (Nat.le_of_ble_eq_true rfl) rfl rfl ?_
    refine y_iconst (v := (J 1)) d_W_setGate_20 rfl ?_
    exact y_retI d_W_setGate_21 rfl rfl
noncomputable def P_W_setPump (Θ : mW) (N : Nat) (h : mH) (a0 : Nat) (a1 : Int32) (a2 : Nat) : Option (Int32 × mH) :=
  (gO Θ h 0 a0 (bx (P_F_setPump Θ N h a0 a1) (fun v2 h1 => (bo (aWL Θ h1 a2 (J 0) ((v2).toInt64)) (fun h5 => (some ((J 0), h5))))) (fun n9 h3 => if n9 = 11 then (some ((J 1), h3)) else none)))
theorem S_W_setPump (hfl : HF l Θ) (hD : 8 ≤ d) (h : mH) (a0 : Nat) (a1 : Int32) (a2 : Nat) : mMs l Θ d M_W_setPump [.ref a0, .int a1, .ref a2] h (tR vI) (P_W_setPump Θ N h a0 a1 a2) := by
  refine mMs.of hfl (by decide +kernel) rfl (Nat.le_of_ble_eq_true rfl) (loc := [some (.ref a0), some (.int a1), some (.ref a2), none]) rfl ?_
  unfold P_W_setPump
  refine y_aload_n d_W_setPump_0 rfl ?_
  refine y_iconst (v := (J 0)) d_W_setPump_1 rfl ?_
  refine y_aload_n d_W_setPump_2 rfl ?_
  refine y_iload_n d_W_setPump_3 rfl ?_
  refine y_gO (fun fs1 g1 => y_xI (c_vi (rest := [.int (J 0), .ref a2]) d_W_setPump_4 k_F_setPump s_W_68 (Or.inl ⟨_, _, _, g1, rfl, rfl⟩) rfl rfl (Nat.le_of_ble_eq_true rfl) (Nat.le_trans (Nat.le_of_ble_eq_true rfl : 7 + 1 ≤ 8) hD) (S_F_setPump hfl (Nat.le_refl _) h a0 a1)) (fun v2 h1 => ?_) (fun n9 h3 => y_h1 (show mCatch M_W_setPump 4 11 12 from ⟨[], (0, 9, 12, 13), [], "java/lang/IllegalArgumentException", rfl, by decide, by decide, rfl, mG (4, 202) (by decide +kernel), mN (3, 171) (by decide +kernel), (fun z hz => absurd hz List.not_mem_nil)⟩) (fun q4 => ?_) (y_h0)))
  · refine y_i2l (v := ((v2).toInt64)) d_W_setPump_7 rfl ?_
    refine y_last d_W_setPump_8 (fun h5 => ?_)
    refine y_goto (tgt := 15) d_W_setPump_9 (by decide) ?_
    refine y_iconst (v := (J 0)) d_W_setPump_15 rfl ?_
    exact y_retI d_W_setPump_16 rfl rfl
  · refine y_astore_n (loc2 := [some (.ref a0), some (.int a1), some (.ref a2), some (.ref q4)]) d_W_setPump_12 (Nat.le_of_ble_eq_true rfl) rfl rfl ?_
    refine y_iconst (v := (J 1)) d_W_setPump_13 rfl ?_
    exact y_retI d_W_setPump_14 rfl rfl
noncomputable def P_W_seaLevel (Θ : mW) (N : Nat) (h : mH) (a0 : Nat) (a1 : Int32) (a2 : Nat) : Option (Int32 × mH) :=
  (gO Θ h 0 a0 (bx (P_F_seaLevel Θ N h a0 a1) (fun v2 h1 => (bo (aWL Θ h1 a2 (J 0) ((v2).toInt64)) (fun h5 => (some ((J 0), h5))))) (fun n9 h3 => if n9 = 11 then (some ((J 1), h3)) else none)))
theorem S_W_seaLevel (hfl : HF l Θ) (hD : 8 ≤ d) (h : mH) (a0 : Nat) (a1 : Int32) (a2 : Nat) : mMs l Θ d M_W_seaLevel [.ref a0, .int a1, .ref a2] h (tR vI) (P_W_seaLevel Θ N h a0 a1 a2) := by
  refine mMs.of hfl (by decide +kernel) rfl (Nat.le_of_ble_eq_true rfl) (loc := [some (.ref a0), some (.int a1), some (.ref a2), none]) rfl ?_
  unfold P_W_seaLevel
  refine y_aload_n d_W_seaLevel_0 rfl ?_
  refine y_iconst (v := (J 0)) d_W_seaLevel_1 rfl ?_
  refine y_aload_n d_W_seaLevel_2 rfl ?_
  refine y_iload_n d_W_seaLevel_3 rfl ?_
  refine y_gO (fun fs1 g1 => y_xI (c_vi (rest := [.int (J 0), .ref a2]) d_W_seaLevel_4 k_F_seaLevel s_W_71 (Or.inl ⟨_, _, _, g1, rfl, rfl⟩) rfl rfl (Nat.le_of_ble_eq_true rfl) (Nat.le_trans (Nat.le_of_ble_eq_true rfl : 7 + 1 ≤ 8) hD) (S_F_seaLevel hfl (Nat.le_refl _) h a0 a1)) (fun v2 h1 => ?_) (fun n9 h3 => y_h1 (show mCatch M_W_seaLevel 4 11 12 from ⟨[], (0, 9, 12, 13), [], "java/lang/IllegalArgumentException", rfl, by decide, by decide, rfl, mG (4, 202) (by decide +kernel), mN (3, 171) (by decide +kernel), (fun z hz => absurd hz List.not_mem_nil)⟩) (fun q4 => ?_) (y_h0)))
  · refine y_i2l (v := ((v2).toInt64)) d_W_seaLevel_7 rfl ?_
    refine y_last d_W_seaLevel_8 (fun h5 => ?_)
    refine y_goto (tgt := 15) d_W_seaLevel_9 (by decide) ?_
    refine y_iconst (v := (J 0)) d_W_seaLevel_15 rfl ?_
    exact y_retI d_W_seaLevel_16 rfl rfl
  · refine y_astore_n (loc2 := [some (.ref a0), some (.int a1), some (.ref a2), some (.ref q4)]) d_W_seaLevel_12 (Nat.le_of_ble_eq_true rfl) rfl rfl ?_
    refine y_iconst (v := (J 1)) d_W_seaLevel_13 rfl ?_
    exact y_retI d_W_seaLevel_14 rfl rfl
noncomputable def P_W_seaLevelByHours (Θ : mW) (N : Nat) (h : mH) (a0 : Nat) (a1 : Int32) (a2 : Nat) : Option (Int32 × mH) :=
  (gO Θ h 0 a0 (bx (P_F_seaLevelByHours Θ N h a0 a1) (fun v2 h1 => (bo (aWL Θ h1 a2 (J 0) ((v2).toInt64)) (fun h5 => (some ((J 0), h5))))) (fun n9 h3 => if n9 = 11 then (some ((J 1), h3)) else none)))
theorem S_W_seaLevelByHours (hfl : HF l Θ) (hD : 8 ≤ d) (h : mH) (a0 : Nat) (a1 : Int32) (a2 : Nat) : mMs l Θ d M_W_seaLevelByHours [.ref a0, .int a1, .ref a2] h (tR vI) (P_W_seaLevelByHours Θ N h a0 a1 a2) := by
  refine mMs.of hfl (by decide +kernel) rfl (Nat.le_of_ble_eq_true rfl) (loc := [some (.ref a0), some (.int a1), some (.ref a2), none]) rfl ?_
  unfold P_W_seaLevelByHours
  refine y_aload_n d_W_seaLevelByHours_0 rfl ?_
  refine y_iconst (v := (J 0)) d_W_seaLevelByHours_1 rfl ?_
  refine y_aload_n d_W_seaLevelByHours_2 rfl ?_
  refine y_iload_n d_W_seaLevelByHours_3 rfl ?_
  refine y_gO (fun fs1 g1 => y_xI (c_vi (rest := [.int (J 0), .ref a2]) d_W_seaLevelByHours_4 k_F_seaLevelByHours s_W_74 (Or.inl ⟨_, _, _, g1, rfl, rfl⟩) rfl rfl (Nat.le_of_ble_eq_true rfl) (Nat.le_trans (Nat.le_of_ble_eq_true rfl : 7 + 1 ≤ 8) hD) (S_F_seaLevelByHours hfl (Nat.le_refl _) h a0 a1)) (fun v2 h1 => ?_) (fun n9 h3 => y_h1 (show mCatch M_W_seaLevelByHours 4 11 12 from ⟨[], (0, 9, 12, 13), [], "java/lang/IllegalArgumentException", rfl, by decide, by decide, rfl, mG (4, 202) (by decide +kernel), mN (3, 171) (by decide +kernel), (fun z hz => absurd hz List.not_mem_nil)⟩) (fun q4 => ?_) (y_h0)))
  · refine y_i2l (v := ((v2).toInt64)) d_W_seaLevelByHours_7 rfl ?_
    refine y_last d_W_seaLevelByHours_8 (fun h5 => ?_)
    refine y_goto (tgt := 15) d_W_seaLevelByHours_9 (by decide) ?_
    refine y_iconst (v := (J 0)) d_W_seaLevelByHours_15 rfl ?_
    exact y_retI d_W_seaLevelByHours_16 rfl rfl
  · refine y_astore_n (loc2 := [some (.ref a0), some (.int a1), some (.ref a2), some (.ref q4)]) d_W_seaLevelByHours_12 (Nat.le_of_ble_eq_true rfl) rfl rfl ?_
    refine y_iconst (v := (J 1)) d_W_seaLevelByHours_13 rfl ?_
    exact y_retI d_W_seaLevelByHours_14 rfl rfl
noncomputable def P_W_pass (Θ : mW) (N : Nat) (h : mH) (a0 : Nat) (a1 : Int32) (a2 : Nat) : Option (Int32 × mH) :=
  (gO Θ h 0 a0 (bx (P_F_pass Θ N h a0 a1) (fun v2 h1 => (bo (aWL Θ h1 a2 (J 0) ((v2).toInt64)) (fun h5 => (some ((J 0), h5))))) (fun n9 h3 => if n9 = 11 then (some ((J 1), h3)) else none)))
theorem S_W_pass (hfl : HF l Θ) (hD : 8 ≤ d) (h : mH) (a0 : Nat) (a1 : Int32) (a2 : Nat) : mMs l Θ d M_W_pass [.ref a0, .int a1, .ref a2] h (tR vI) (P_W_pass Θ N h a0 a1 a2) := by
  refine mMs.of hfl (by decide +kernel) rfl (Nat.le_of_ble_eq_true rfl) (loc := [some (.ref a0), some (.int a1), some (.ref a2), none]) rfl ?_
  unfold P_W_pass
  refine y_aload_n d_W_pass_0 rfl ?_
  refine y_iconst (v := (J 0)) d_W_pass_1 rfl ?_
  refine y_aload_n d_W_pass_2 rfl ?_
  refine y_iload_n d_W_pass_3 rfl ?_
  refine y_gO (fun fs1 g1 => y_xI (c_vi (rest := [.int (J 0), .ref a2]) d_W_pass_4 k_F_pass s_W_77 (Or.inl ⟨_, _, _, g1, rfl, rfl⟩) rfl rfl (Nat.le_of_ble_eq_true rfl) (Nat.le_trans (Nat.le_of_ble_eq_true rfl : 7 + 1 ≤ 8) hD) (S_F_pass hfl (Nat.le_refl _) h a0 a1)) (fun v2 h1 => ?_) (fun n9 h3 => y_h1 (show mCatch M_W_pass 4 11 12 from ⟨[], (0, 9, 12, 13), [], "java/lang/IllegalArgumentException", rfl, by decide, by decide, rfl, mG (4, 202) (by decide +kernel), mN (3, 171) (by decide +kernel), (fun z hz => absurd hz List.not_mem_nil)⟩) (fun q4 => ?_) (y_h0)))
  · refine y_i2l (v := ((v2).toInt64)) d_W_pass_7 rfl ?_
    refine y_last d_W_pass_8 (fun h5 => ?_)
    refine y_goto (tgt := 15) d_W_pass_9 (by decide) ?_
    refine y_iconst (v := (J 0)) d_W_pass_15 rfl ?_
    exact y_retI d_W_pass_16 rfl rfl
  · refine y_astore_n (loc2 := [some (.ref a0), some (.int a1), some (.ref a2), some (.ref q4)]) d_W_pass_12 (Nat.le_of_ble_eq_true rfl) rfl rfl ?_
    refine y_iconst (v := (J 1)) d_W_pass_13 rfl ?_
    exact y_retI d_W_pass_14 rfl rfl
noncomputable def P_W_levelAfter (Θ : mW) (N : Nat) (h : mH) (a0 : Nat) (a1 : Int32) (a2 : Nat) : Option (Int32 × mH) :=
  (gO Θ h 0 a0 (bx (P_F_levelAfter Θ N h a0 a1) (fun v2 h1 => (bo (aWL Θ h1 a2 (J 0) ((v2).toInt64)) (fun h5 => (some ((J 0), h5))))) (fun n9 h3 => if n9 = 11 then (some ((J 1), h3)) else none)))
theorem S_W_levelAfter (hfl : HF l Θ) (hD : 8 ≤ d) (h : mH) (a0 : Nat) (a1 : Int32) (a2 : Nat) : mMs l Θ d M_W_levelAfter [.ref a0, .int a1, .ref a2] h (tR vI) (P_W_levelAfter Θ N h a0 a1 a2) := by
  refine mMs.of hfl (by decide +kernel) rfl (Nat.le_of_ble_eq_true rfl) (loc := [some (.ref a0), some (.int a1), some (.ref a2), none]) rfl ?_
  unfold P_W_levelAfter
  refine y_aload_n d_W_levelAfter_0 rfl ?_
  refine y_iconst (v := (J 0)) d_W_levelAfter_1 rfl ?_
  refine y_aload_n d_W_levelAfter_2 rfl ?_
  refine y_iload_n d_W_levelAfter_3 rfl ?_
  refine y_gO (fun fs1 g1 => y_xI (c_vi (rest := [.int (J 0), .ref a2]) d_W_levelAfter_4 k_F_levelAfter s_W_80 (Or.inl ⟨_, _, _, g1, rfl, rfl⟩) rfl rfl (Nat.le_of_ble_eq_true rfl) (Nat.le_trans (Nat.le_of_ble_eq_true rfl : 7 + 1 ≤ 8) hD) (S_F_levelAfter hfl (Nat.le_refl _) h a0 a1)) (fun v2 h1 => ?_) (fun n9 h3 => y_h1 (show mCatch M_W_levelAfter 4 11 12 from ⟨[], (0, 9, 12, 13), [], "java/lang/IllegalArgumentException", rfl, by decide, by decide, rfl, mG (4, 202) (by decide +kernel), mN (3, 171) (by decide +kernel), (fun z hz => absurd hz List.not_mem_nil)⟩) (fun q4 => ?_) (y_h0)))
  · refine y_i2l (v := ((v2).toInt64)) d_W_levelAfter_7 rfl ?_
    refine y_last d_W_levelAfter_8 (fun h5 => ?_)
    refine y_goto (tgt := 15) d_W_levelAfter_9 (by decide) ?_
    refine y_iconst (v := (J 0)) d_W_levelAfter_15 rfl ?_
    exact y_retI d_W_levelAfter_16 rfl rfl
  · refine y_astore_n (loc2 := [some (.ref a0), some (.int a1), some (.ref a2), some (.ref q4)]) d_W_levelAfter_12 (Nat.le_of_ble_eq_true rfl) rfl rfl ?_
    refine y_iconst (v := (J 1)) d_W_levelAfter_13 rfl ?_
    exact y_retI d_W_levelAfter_14 rfl rfl
noncomputable def P_W_hoursUntilAfloat (Θ : mW) (N : Nat) (h : mH) (a0 : Nat) (a1 : Int32) (a2 : Nat) : Option (Int32 × mH) :=
  (gO Θ h 0 a0 (bx (P_F_hoursUntilAfloat Θ N h a0 a1) (fun v2 h1 => (bo (aWL Θ h1 a2 (J 0) ((v2).toInt64)) (fun h5 => (some ((J 0), h5))))) (fun n9 h3 => if n9 = 10 then (some ((J 1), h3)) else if n9 = 12 then (some ((J 2), h3)) else none)))
theorem S_W_hoursUntilAfloat (hfl : HF l Θ) (hD : 9 ≤ d) (h : mH) (a0 : Nat) (a1 : Int32) (a2 : Nat) : mMs l Θ d M_W_hoursUntilAfloat [.ref a0, .int a1, .ref a2] h (tR vI) (P_W_hoursUntilAfloat Θ N h a0 a1 a2) := by
  refine mMs.of hfl (by decide +kernel) rfl (Nat.le_of_ble_eq_true rfl) (loc := [some (.ref a0), some (.int a1), some (.ref a2), none]) rfl ?_
  unfold P_W_hoursUntilAfloat
  refine y_aload_n d_W_hoursUntilAfloat_0 rfl ?_
  refine y_iconst (v := (J 0)) d_W_hoursUntilAfloat_1 rfl ?_
  refine y_aload_n d_W_hoursUntilAfloat_2 rfl ?_
  refine y_iload_n d_W_hoursUntilAfloat_3 rfl ?_
  refine y_gO (fun fs1 g1 => y_xI (c_vi (rest := [.int (J 0), .ref a2]) d_W_hoursUntilAfloat_4 k_F_hoursUntilAfloat s_W_83 (Or.inl ⟨_, _, _, g1, rfl, rfl⟩) rfl rfl (Nat.le_of_ble_eq_true rfl) (Nat.le_trans (Nat.le_of_ble_eq_true rfl : 8 + 1 ≤ 9) hD) (S_F_hoursUntilAfloat hfl (Nat.le_refl _) h a0 a1)) (fun v2 h1 => ?_) (fun n9 h3 => y_h1 (show mCatch M_W_hoursUntilAfloat 4 10 12 from ⟨[], (0, 9, 12, 21), [(0, 9, 15, 15)], "java/util/NoSuchElementException", rfl, by decide, by decide, rfl, mG (5, 8) (by decide +kernel), mN (5, 23) (by decide +kernel), (fun z hz => absurd hz List.not_mem_nil)⟩) (fun q4 => ?_) (y_h1 (show mCatch M_W_hoursUntilAfloat 4 12 15 from ⟨[(0, 9, 12, 21)], (0, 9, 15, 15), [], "java/lang/IllegalStateException", rfl, by decide, by decide, rfl, mG (4, 203) (by decide +kernel), mN (4, 221) (by decide +kernel), (by intro z hz; simp only [List.mem_cons, List.not_mem_nil, or_false] at hz; rcases hz with rfl <;> first | exact ⟨by decide, "java/util/NoSuchElementException", mG (5, 8) (by decide +kernel), by decide +kernel⟩)⟩) (fun q4 => ?_) (y_h0))))
  · refine y_i2l (v := ((v2).toInt64)) d_W_hoursUntilAfloat_7 rfl ?_
    refine y_last d_W_hoursUntilAfloat_8 (fun h5 => ?_)
    refine y_goto (tgt := 18) d_W_hoursUntilAfloat_9 (by decide) ?_
    refine y_iconst (v := (J 0)) d_W_hoursUntilAfloat_18 rfl ?_
    exact y_retI d_W_hoursUntilAfloat_19 rfl rfl
  · refine y_astore_n (loc2 := [some (.ref a0), some (.int a1), some (.ref a2), some (.ref q4)]) d_W_hoursUntilAfloat_12 (Nat.le_of_ble_eq_true rfl) rfl rfl ?_
    refine y_iconst (v := (J 1)) d_W_hoursUntilAfloat_13 rfl ?_
    exact y_retI d_W_hoursUntilAfloat_14 rfl rfl
  · refine y_astore_n (loc2 := [some (.ref a0), some (.int a1), some (.ref a2), some (.ref q4)]) d_W_hoursUntilAfloat_15 (Nat.le_of_ble_eq_true rfl) rfl rfl ?_
    refine y_iconst (v := (J 2)) d_W_hoursUntilAfloat_16 rfl ?_
    exact y_retI d_W_hoursUntilAfloat_17 rfl rfl
noncomputable def P_W_placeBlock (Θ : mW) (N : Nat) (h : mH) (a0 : Nat) (a1 : Int32) (a2 : Nat) : Option (Int32 × mH) :=
  (gO Θ h 0 a0 (bx (P_F_placeBlock Θ N h a0 a1) (fun v2 h1 => (bo (aWL Θ h1 a2 (J 0) ((v2).toInt64)) (fun h5 => (some ((J 0), h5))))) (fun n9 h3 => if n9 = 11 then (some ((J 1), h3)) else if n9 = 12 then (some ((J 2), h3)) else if n9 = 13 then (some ((J 3), h3)) else none)))
theorem S_W_placeBlock (hfl : HF l Θ) (hD : 9 ≤ d) (h : mH) (a0 : Nat) (a1 : Int32) (a2 : Nat) : mMs l Θ d M_W_placeBlock [.ref a0, .int a1, .ref a2] h (tR vI) (P_W_placeBlock Θ N h a0 a1 a2) := by
  refine mMs.of hfl (by decide +kernel) rfl (Nat.le_of_ble_eq_true rfl) (loc := [some (.ref a0), some (.int a1), some (.ref a2), none]) rfl ?_
  unfold P_W_placeBlock
  refine y_aload_n d_W_placeBlock_0 rfl ?_
  refine y_iconst (v := (J 0)) d_W_placeBlock_1 rfl ?_
  refine y_aload_n d_W_placeBlock_2 rfl ?_
  refine y_iload_n d_W_placeBlock_3 rfl ?_
  refine y_gO (fun fs1 g1 => y_xI (c_vi (rest := [.int (J 0), .ref a2]) d_W_placeBlock_4 k_F_placeBlock s_W_86 (Or.inl ⟨_, _, _, g1, rfl, rfl⟩) rfl rfl (Nat.le_of_ble_eq_true rfl) (Nat.le_trans (Nat.le_of_ble_eq_true rfl : 8 + 1 ≤ 9) hD) (S_F_placeBlock hfl (Nat.le_refl _) h a0 a1)) (fun v2 h1 => ?_) (fun n9 h3 => y_h1 (show mCatch M_W_placeBlock 4 11 12 from ⟨[], (0, 9, 12, 13), [(0, 9, 15, 15), (0, 9, 18, 27)], "java/lang/IllegalArgumentException", rfl, by decide, by decide, rfl, mG (4, 202) (by decide +kernel), mN (3, 171) (by decide +kernel), (fun z hz => absurd hz List.not_mem_nil)⟩) (fun q4 => ?_) (y_h1 (show mCatch M_W_placeBlock 4 12 15 from ⟨[(0, 9, 12, 13)], (0, 9, 15, 15), [(0, 9, 18, 27)], "java/lang/IllegalStateException", rfl, by decide, by decide, rfl, mG (4, 203) (by decide +kernel), mN (4, 221) (by decide +kernel), (by intro z hz; simp only [List.mem_cons, List.not_mem_nil, or_false] at hz; rcases hz with rfl <;> first | exact ⟨by decide, "java/lang/IllegalArgumentException", mG (4, 202) (by decide +kernel), by decide +kernel⟩)⟩) (fun q4 => ?_) (y_h1 (show mCatch M_W_placeBlock 4 13 18 from ⟨[(0, 9, 12, 13), (0, 9, 15, 15)], (0, 9, 18, 27), [], "java/lang/UnsupportedOperationException", rfl, by decide, by decide, rfl, mG (5, 45) (by decide +kernel), mN (5, 71) (by decide +kernel), (by intro z hz; simp only [List.mem_cons, List.not_mem_nil, or_false] at hz; rcases hz with rfl | rfl <;> first | exact ⟨by decide, "java/lang/IllegalArgumentException", mG (4, 202) (by decide +kernel), by decide +kernel⟩ | exact ⟨by decide, "java/lang/IllegalStateException", mG (4, 203) (by decide +kernel), by decide +kernel⟩)⟩) (fun q4 => ?_) (y_h0)))))
  · refine y_i2l (v := ((v2).toInt64)) d_W_placeBlock_7 rfl ?_
    refine y_last d_W_placeBlock_8 (fun h5 => ?_)
    refine y_goto (tgt := 21) d_W_placeBlock_9 (by decide) ?_
    refine y_iconst (v := (J 0)) d_W_placeBlock_21 rfl ?_
    exact y_retI d_W_placeBlock_22 rfl rfl
  · refine y_astore_n (loc2 := [some (.ref a0), some (.int a1), some (.ref a2), some (.ref q4)]) d_W_placeBlock_12 (Nat.le_of_ble_eq_true rfl) rfl rfl ?_
    refine y_iconst (v := (J 1)) d_W_placeBlock_13 rfl ?_
    exact y_retI d_W_placeBlock_14 rfl rfl
  · refine y_astore_n (loc2 := [some (.ref a0), some (.int a1), some (.ref a2), some (.ref q4)]) d_W_placeBlock_15 (Nat.le_of_ble_eq_true rfl) rfl rfl ?_
    refine y_iconst (v := (J 2)) d_W_placeBlock_16 rfl ?_
    exact y_retI d_W_placeBlock_17 rfl rfl
  · refine y_astore_n (loc2 := [some (.ref a0), some (.int a1), some (.ref a2), some (.ref q4)]) d_W_placeBlock_18 (Nat.le_of_ble_eq_true rfl) rfl rfl ?_
    refine y_iconst (v := (J 3)) d_W_placeBlock_19 rfl ?_
    exact y_retI d_W_placeBlock_20 rfl rfl
noncomputable def P_W_removeBlock (Θ : mW) (N : Nat) (h : mH) (a0 : Nat) (a1 : Int32) (a2 : Nat) : Option (Int32 × mH) :=
  (gO Θ h 0 a0 (bx (P_F_removeBlock Θ N h a0 a1) (fun v2 h1 => (bo (aWL Θ h1 a2 (J 0) ((v2).toInt64)) (fun h5 => (some ((J 0), h5))))) (fun n9 h3 => if n9 = 10 then (some ((J 2), h3)) else if n9 = 11 then (some ((J 1), h3)) else if n9 = 13 then (some ((J 3), h3)) else none)))
theorem S_W_removeBlock (hfl : HF l Θ) (hD : 9 ≤ d) (h : mH) (a0 : Nat) (a1 : Int32) (a2 : Nat) : mMs l Θ d M_W_removeBlock [.ref a0, .int a1, .ref a2] h (tR vI) (P_W_removeBlock Θ N h a0 a1 a2) := by
  refine mMs.of hfl (by decide +kernel) rfl (Nat.le_of_ble_eq_true rfl) (loc := [some (.ref a0), some (.int a1), some (.ref a2), none]) rfl ?_
  unfold P_W_removeBlock
  refine y_aload_n d_W_removeBlock_0 rfl ?_
  refine y_iconst (v := (J 0)) d_W_removeBlock_1 rfl ?_
  refine y_aload_n d_W_removeBlock_2 rfl ?_
  refine y_iload_n d_W_removeBlock_3 rfl ?_
  refine y_gO (fun fs1 g1 => y_xI (c_vi (rest := [.int (J 0), .ref a2]) d_W_removeBlock_4 k_F_removeBlock s_W_89 (Or.inl ⟨_, _, _, g1, rfl, rfl⟩) rfl rfl (Nat.le_of_ble_eq_true rfl) (Nat.le_trans (Nat.le_of_ble_eq_true rfl : 8 + 1 ≤ 9) hD) (S_F_removeBlock hfl (Nat.le_refl _) h a0 a1)) (fun v2 h1 => ?_) (fun n9 h3 => y_h1 (show mCatch M_W_removeBlock 4 10 15 from ⟨[(0, 9, 12, 13)], (0, 9, 15, 21), [(0, 9, 18, 27)], "java/util/NoSuchElementException", rfl, by decide, by decide, rfl, mG (5, 8) (by decide +kernel), mN (5, 23) (by decide +kernel), (by intro z hz; simp only [List.mem_cons, List.not_mem_nil, or_false] at hz; rcases hz with rfl <;> first | exact ⟨by decide, "java/lang/IllegalArgumentException", mG (4, 202) (by decide +kernel), by decide +kernel⟩)⟩) (fun q4 => ?_) (y_h1 (show mCatch M_W_removeBlock 4 11 12 from ⟨[], (0, 9, 12, 13), [(0, 9, 15, 21), (0, 9, 18, 27)], "java/lang/IllegalArgumentException", rfl, by decide, by decide, rfl, mG (4, 202) (by decide +kernel), mN (3, 171) (by decide +kernel), (fun z hz => absurd hz List.not_mem_nil)⟩) (fun q4 => ?_) (y_h1 (show mCatch M_W_removeBlock 4 13 18 from ⟨[(0, 9, 12, 13), (0, 9, 15, 21)], (0, 9, 18, 27), [], "java/lang/UnsupportedOperationException", rfl, by decide, by decide, rfl, mG (5, 45) (by decide +kernel), mN (5, 71) (by decide +kernel), (by intro z hz; simp only [List.mem_cons, List.not_mem_nil, or_false] at hz; rcases hz with rfl | rfl <;> first | exact ⟨by decide, "java/lang/IllegalArgumentException", mG (4, 202) (by decide +kernel), by decide +kernel⟩ | exact ⟨by decide, "java/util/NoSuchElementException", mG (5, 8) (by decide +kernel), by decide +kernel⟩)⟩) (fun q4 => ?_) (y_h0)))))
  · refine y_i2l (v := ((v2).toInt64)) d_W_removeBlock_7 rfl ?_
    refine y_last d_W_removeBlock_8 (fun h5 => ?_)
    refine y_goto (tgt := 21) d_W_removeBlock_9 (by decide) ?_
    refine y_iconst (v := (J 0)) d_W_removeBlock_21 rfl ?_
    exact y_retI d_W_removeBlock_22 rfl rfl
  · refine y_astore_n (loc2 := [some (.ref a0), some (.int a1), some (.ref a2), some (.ref q4)]) d_W_removeBlock_15 (Nat.le_of_ble_eq_true rfl) rfl rfl ?_
    refine y_iconst (v := (J 2)) d_W_removeBlock_16 rfl ?_
    exact y_retI d_W_removeBlock_17 rfl rfl
  · refine y_astore_n (loc2 := [some (.ref a0), some (.int a1), some (.ref a2), some (.ref q4)]) d_W_removeBlock_12 (Nat.le_of_ble_eq_true rfl) rfl rfl ?_
    refine y_iconst (v := (J 1)) d_W_removeBlock_13 rfl ?_
    exact y_retI d_W_removeBlock_14 rfl rfl
  · refine y_astore_n (loc2 := [some (.ref a0), some (.int a1), some (.ref a2), some (.ref q4)]) d_W_removeBlock_18 (Nat.le_of_ble_eq_true rfl) rfl rfl ?_
    refine y_iconst (v := (J 3)) d_W_removeBlock_19 rfl ?_
    exact y_retI d_W_removeBlock_20 rfl rfl
noncomputable def P_W_hasBlock (Θ : mW) (N : Nat) (h : mH) (a0 : Nat) (a1 : Int32) (a2 : Nat) : Option (Int32 × mH) :=
  (gO Θ h 0 a0 (bx (P_F_hasBlock Θ N h a0 a1) (fun v2 h1 => (jn (fun (h6 : mH) (s7 : Int64) => (bo (aWL Θ h6 a2 (J 0) s7) (fun h8 => (some ((J 0), h8))))) (fun j5 => (if v2 = 0 then (j5 h1 (0 : Int64)) else (j5 h1 (1 : Int64)))))) (fun n9 h3 => if n9 = 11 then (some ((J 1), h3)) else none)))
theorem S_W_hasBlock (hfl : HF l Θ) (hD : 8 ≤ d) (h : mH) (a0 : Nat) (a1 : Int32) (a2 : Nat) : mMs l Θ d M_W_hasBlock [.ref a0, .int a1, .ref a2] h (tR vI) (P_W_hasBlock Θ N h a0 a1 a2) := by
  refine mMs.of hfl (by decide +kernel) rfl (Nat.le_of_ble_eq_true rfl) (loc := [some (.ref a0), some (.int a1), some (.ref a2), none]) rfl ?_
  unfold P_W_hasBlock
  refine y_aload_n d_W_hasBlock_0 rfl ?_
  refine y_iconst (v := (J 0)) d_W_hasBlock_1 rfl ?_
  refine y_aload_n d_W_hasBlock_2 rfl ?_
  refine y_iload_n d_W_hasBlock_3 rfl ?_
  refine y_gO (fun fs1 g1 => y_xI (c_vi (rest := [.int (J 0), .ref a2]) d_W_hasBlock_4 k_F_hasBlock s_W_92 (Or.inl ⟨_, _, _, g1, rfl, rfl⟩) rfl rfl (Nat.le_of_ble_eq_true rfl) (Nat.le_trans (Nat.le_of_ble_eq_true rfl : 7 + 1 ≤ 8) hD) (S_F_hasBlock hfl (Nat.le_refl _) h a0 a1)) (fun v2 h1 => ?_) (fun n9 h3 => y_h1 (show mCatch M_W_hasBlock 4 11 19 from ⟨[], (0, 16, 19, 13), [], "java/lang/IllegalArgumentException", rfl, by decide, by decide, rfl, mG (4, 202) (by decide +kernel), mN (3, 171) (by decide +kernel), (fun z hz => absurd hz List.not_mem_nil)⟩) (fun q4 => ?_) (y_h0)))
  · refine y_jn (C := fun (j9 : mH → Int64 → Option (Int32 × mH)) => ∀ (h6 : mH) (s7 : Int64), mY l Θ d M_W_hasBlock 15 [none, none, none, none] [.long s7, .int (J 0), .ref a2] h6 (tR vI) (j9 h6 s7)) (fun h6 s7 => ?_) (fun j5 Hj5 => ?_)
    · refine y_last d_W_hasBlock_15 (fun h8 => ?_)
      refine y_goto (tgt := 22) d_W_hasBlock_16 (by decide) ?_
      refine y_iconst (v := (J 0)) d_W_hasBlock_22 rfl ?_
      exact y_retI d_W_hasBlock_23 rfl rfl
    · refine y_if_eq (tgt := 14) d_W_hasBlock_7 (by decide) ?_ ?_
      · refine y_lconst (v := (0 : Int64)) d_W_hasBlock_14 (by decide) ?_
        exact y_wk (loc2 := [none, none, none, none]) trivial (Hj5 h1 (0 : Int64))
      · refine y_lconst (v := (1 : Int64)) d_W_hasBlock_10 (by decide) ?_
        refine y_goto (tgt := 15) d_W_hasBlock_11 (by decide) ?_
        exact y_wk (loc2 := [none, none, none, none]) trivial (Hj5 h1 (1 : Int64))
  · refine y_astore_n (loc2 := [some (.ref a0), some (.int a1), some (.ref a2), some (.ref q4)]) d_W_hasBlock_19 (Nat.le_of_ble_eq_true rfl) rfl rfl ?_
    refine y_iconst (v := (J 1)) d_W_hasBlock_20 rfl ?_
    exact y_retI d_W_hasBlock_21 rfl rfl
noncomputable def P_W_blocksBeneath (Θ : mW) (N : Nat) (h : mH) (a0 : Nat) (a1 : Int32) (a2 : Nat) : Option (Int32 × mH) :=
  (gO Θ h 0 a0 (bx (P_F_blocksBeneath Θ N h a0 a1) (fun v2 h1 => (bo (aWL Θ h1 a2 (J 0) ((v2).toInt64)) (fun h5 => (some ((J 0), h5))))) (fun n9 h3 => if n9 = 10 then (some ((J 1), h3)) else none)))
theorem S_W_blocksBeneath (hfl : HF l Θ) (hD : 8 ≤ d) (h : mH) (a0 : Nat) (a1 : Int32) (a2 : Nat) : mMs l Θ d M_W_blocksBeneath [.ref a0, .int a1, .ref a2] h (tR vI) (P_W_blocksBeneath Θ N h a0 a1 a2) := by
  refine mMs.of hfl (by decide +kernel) rfl (Nat.le_of_ble_eq_true rfl) (loc := [some (.ref a0), some (.int a1), some (.ref a2), none]) rfl ?_
  unfold P_W_blocksBeneath
  refine y_aload_n d_W_blocksBeneath_0 rfl ?_
  refine y_iconst (v := (J 0)) d_W_blocksBeneath_1 rfl ?_
  refine y_aload_n d_W_blocksBeneath_2 rfl ?_
  refine y_iload_n d_W_blocksBeneath_3 rfl ?_
  refine y_gO (fun fs1 g1 => y_xI (c_vi (rest := [.int (J 0), .ref a2]) d_W_blocksBeneath_4 k_F_blocksBeneath s_W_95 (Or.inl ⟨_, _, _, g1, rfl, rfl⟩) rfl rfl (Nat.le_of_ble_eq_true rfl) (Nat.le_trans (Nat.le_of_ble_eq_true rfl : 7 + 1 ≤ 8) hD) (S_F_blocksBeneath hfl (Nat.le_refl _) h a0 a1)) (fun v2 h1 => ?_) (fun n9 h3 => y_h1 (show mCatch M_W_blocksBeneath 4 10 12 from ⟨[], (0, 9, 12, 21), [], "java/util/NoSuchElementException", rfl, by decide, by decide, rfl, mG (5, 8) (by decide +kernel), mN (5, 23) (by decide +kernel), (fun z hz => absurd hz List.not_mem_nil)⟩) (fun q4 => ?_) (y_h0)))
  · refine y_i2l (v := ((v2).toInt64)) d_W_blocksBeneath_7 rfl ?_
    refine y_last d_W_blocksBeneath_8 (fun h5 => ?_)
    refine y_goto (tgt := 15) d_W_blocksBeneath_9 (by decide) ?_
    refine y_iconst (v := (J 0)) d_W_blocksBeneath_15 rfl ?_
    exact y_retI d_W_blocksBeneath_16 rfl rfl
  · refine y_astore_n (loc2 := [some (.ref a0), some (.int a1), some (.ref a2), some (.ref q4)]) d_W_blocksBeneath_12 (Nat.le_of_ble_eq_true rfl) rfl rfl ?_
    refine y_iconst (v := (J 1)) d_W_blocksBeneath_13 rfl ?_
    exact y_retI d_W_blocksBeneath_14 rfl rfl
noncomputable def P_W_blocksBeneathByBlocks (Θ : mW) (N : Nat) (h : mH) (a0 : Nat) (a1 : Int32) (a2 : Nat) : Option (Int32 × mH) :=
  (gO Θ h 0 a0 (bx (P_F_blocksBeneathByBlocks Θ N h a0 a1) (fun v2 h1 => (bo (aWL Θ h1 a2 (J 0) ((v2).toInt64)) (fun h5 => (some ((J 0), h5))))) (fun n9 h3 => if n9 = 10 then (some ((J 1), h3)) else none)))
theorem S_W_blocksBeneathByBlocks (hfl : HF l Θ) (hD : 8 ≤ d) (h : mH) (a0 : Nat) (a1 : Int32) (a2 : Nat) : mMs l Θ d M_W_blocksBeneathByBlocks [.ref a0, .int a1, .ref a2] h (tR vI) (P_W_blocksBeneathByBlocks Θ N h a0 a1 a2) := by
  refine mMs.of hfl (by decide +kernel) rfl (Nat.le_of_ble_eq_true rfl) (loc := [some (.ref a0), some (.int a1), some (.ref a2), none]) rfl ?_
  unfold P_W_blocksBeneathByBlocks
  refine y_aload_n d_W_blocksBeneathByBlocks_0 rfl ?_
  refine y_iconst (v := (J 0)) d_W_blocksBeneathByBlocks_1 rfl ?_
  refine y_aload_n d_W_blocksBeneathByBlocks_2 rfl ?_
  refine y_iload_n d_W_blocksBeneathByBlocks_3 rfl ?_
  refine y_gO (fun fs1 g1 => y_xI (c_vi (rest := [.int (J 0), .ref a2]) d_W_blocksBeneathByBlocks_4 k_F_blocksBeneathByBlocks s_W_98 (Or.inl ⟨_, _, _, g1, rfl, rfl⟩) rfl rfl (Nat.le_of_ble_eq_true rfl) (Nat.le_trans (Nat.le_of_ble_eq_true rfl : 7 + 1 ≤ 8) hD) (S_F_blocksBeneathByBlocks hfl (Nat.le_refl _) h a0 a1)) (fun v2 h1 => ?_) (fun n9 h3 => y_h1 (show mCatch M_W_blocksBeneathByBlocks 4 10 12 from ⟨[], (0, 9, 12, 21), [], "java/util/NoSuchElementException", rfl, by decide, by decide, rfl, mG (5, 8) (by decide +kernel), mN (5, 23) (by decide +kernel), (fun z hz => absurd hz List.not_mem_nil)⟩) (fun q4 => ?_) (y_h0)))
  · refine y_i2l (v := ((v2).toInt64)) d_W_blocksBeneathByBlocks_7 rfl ?_
    refine y_last d_W_blocksBeneathByBlocks_8 (fun h5 => ?_)
    refine y_goto (tgt := 15) d_W_blocksBeneathByBlocks_9 (by decide) ?_
    refine y_iconst (v := (J 0)) d_W_blocksBeneathByBlocks_15 rfl ?_
    exact y_retI d_W_blocksBeneathByBlocks_16 rfl rfl
  · refine y_astore_n (loc2 := [some (.ref a0), some (.int a1), some (.ref a2), some (.ref q4)]) d_W_blocksBeneathByBlocks_12 (Nat.le_of_ble_eq_true rfl) rfl rfl ?_
    refine y_iconst (v := (J 1)) d_W_blocksBeneathByBlocks_13 rfl ?_
    exact y_retI d_W_blocksBeneathByBlocks_14 rfl rfl
noncomputable def P_W_shipAtPosition (Θ : mW) (N : Nat) (h : mH) (a0 : Nat) (a1 : Int32) (a2 : Nat) : Option (Int32 × mH) :=
  (gO Θ h 0 a0 (bx (P_F_shipAtPosition Θ N h a0 a1) (fun v2 h1 => (bo (aWL Θ h1 a2 (J 0) ((v2).toInt64)) (fun h5 => (some ((J 0), h5))))) (fun n9 h3 => if n9 = 10 then (some ((J 2), h3)) else if n9 = 11 then (some ((J 1), h3)) else none)))
theorem S_W_shipAtPosition (hfl : HF l Θ) (hD : 8 ≤ d) (h : mH) (a0 : Nat) (a1 : Int32) (a2 : Nat) : mMs l Θ d M_W_shipAtPosition [.ref a0, .int a1, .ref a2] h (tR vI) (P_W_shipAtPosition Θ N h a0 a1 a2) := by
  refine mMs.of hfl (by decide +kernel) rfl (Nat.le_of_ble_eq_true rfl) (loc := [some (.ref a0), some (.int a1), some (.ref a2), none]) rfl ?_
  unfold P_W_shipAtPosition
  refine y_aload_n d_W_shipAtPosition_0 rfl ?_
  refine y_iconst (v := (J 0)) d_W_shipAtPosition_1 rfl ?_
  refine y_aload_n d_W_shipAtPosition_2 rfl ?_
  refine y_iload_n d_W_shipAtPosition_3 rfl ?_
  refine y_gO (fun fs1 g1 => y_xI (c_vi (rest := [.int (J 0), .ref a2]) d_W_shipAtPosition_4 k_F_shipAtPosition s_W_101 (Or.inl ⟨_, _, _, g1, rfl, rfl⟩) rfl rfl (Nat.le_of_ble_eq_true rfl) (Nat.le_trans (Nat.le_of_ble_eq_true rfl : 7 + 1 ≤ 8) hD) (S_F_shipAtPosition hfl (Nat.le_refl _) h a0 a1)) (fun v2 h1 => ?_) (fun n9 h3 => y_h1 (show mCatch M_W_shipAtPosition 4 10 15 from ⟨[(0, 9, 12, 13)], (0, 9, 15, 21), [], "java/util/NoSuchElementException", rfl, by decide, by decide, rfl, mG (5, 8) (by decide +kernel), mN (5, 23) (by decide +kernel), (by intro z hz; simp only [List.mem_cons, List.not_mem_nil, or_false] at hz; rcases hz with rfl <;> first | exact ⟨by decide, "java/lang/IllegalArgumentException", mG (4, 202) (by decide +kernel), by decide +kernel⟩)⟩) (fun q4 => ?_) (y_h1 (show mCatch M_W_shipAtPosition 4 11 12 from ⟨[], (0, 9, 12, 13), [(0, 9, 15, 21)], "java/lang/IllegalArgumentException", rfl, by decide, by decide, rfl, mG (4, 202) (by decide +kernel), mN (3, 171) (by decide +kernel), (fun z hz => absurd hz List.not_mem_nil)⟩) (fun q4 => ?_) (y_h0))))
  · refine y_i2l (v := ((v2).toInt64)) d_W_shipAtPosition_7 rfl ?_
    refine y_last d_W_shipAtPosition_8 (fun h5 => ?_)
    refine y_goto (tgt := 18) d_W_shipAtPosition_9 (by decide) ?_
    refine y_iconst (v := (J 0)) d_W_shipAtPosition_18 rfl ?_
    exact y_retI d_W_shipAtPosition_19 rfl rfl
  · refine y_astore_n (loc2 := [some (.ref a0), some (.int a1), some (.ref a2), some (.ref q4)]) d_W_shipAtPosition_15 (Nat.le_of_ble_eq_true rfl) rfl rfl ?_
    refine y_iconst (v := (J 2)) d_W_shipAtPosition_16 rfl ?_
    exact y_retI d_W_shipAtPosition_17 rfl rfl
  · refine y_astore_n (loc2 := [some (.ref a0), some (.int a1), some (.ref a2), some (.ref q4)]) d_W_shipAtPosition_12 (Nat.le_of_ble_eq_true rfl) rfl rfl ?_
    refine y_iconst (v := (J 1)) d_W_shipAtPosition_13 rfl ?_
    exact y_retI d_W_shipAtPosition_14 rfl rfl
noncomputable def P_W_firstGap (Θ : mW) (N : Nat) (h : mH) (a0 : Nat) (a1 : Int32) (a2 : Nat) : Option (Int32 × mH) :=
  (gO Θ h 0 a0 (bx (P_F_firstGap Θ N h a0 a1) (fun v2 h1 => (bo (aWL Θ h1 a2 (J 0) ((v2).toInt64)) (fun h5 => (some ((J 0), h5))))) (fun n9 h3 => if n9 = 10 then (some ((J 2), h3)) else if n9 = 11 then (some ((J 1), h3)) else none)))
theorem S_W_firstGap (hfl : HF l Θ) (hD : 8 ≤ d) (h : mH) (a0 : Nat) (a1 : Int32) (a2 : Nat) : mMs l Θ d M_W_firstGap [.ref a0, .int a1, .ref a2] h (tR vI) (P_W_firstGap Θ N h a0 a1 a2) := by
  refine mMs.of hfl (by decide +kernel) rfl (Nat.le_of_ble_eq_true rfl) (loc := [some (.ref a0), some (.int a1), some (.ref a2), none]) rfl ?_
  unfold P_W_firstGap
  refine y_aload_n d_W_firstGap_0 rfl ?_
  refine y_iconst (v := (J 0)) d_W_firstGap_1 rfl ?_
  refine y_aload_n d_W_firstGap_2 rfl ?_
  refine y_iload_n d_W_firstGap_3 rfl ?_
  refine y_gO (fun fs1 g1 => y_xI (c_vi (rest := [.int (J 0), .ref a2]) d_W_firstGap_4 k_F_firstGap s_W_104 (Or.inl ⟨_, _, _, g1, rfl, rfl⟩) rfl rfl (Nat.le_of_ble_eq_true rfl) (Nat.le_trans (Nat.le_of_ble_eq_true rfl : 7 + 1 ≤ 8) hD) (S_F_firstGap hfl (Nat.le_refl _) h a0 a1)) (fun v2 h1 => ?_) (fun n9 h3 => y_h1 (show mCatch M_W_firstGap 4 10 15 from ⟨[(0, 9, 12, 13)], (0, 9, 15, 21), [], "java/util/NoSuchElementException", rfl, by decide, by decide, rfl, mG (5, 8) (by decide +kernel), mN (5, 23) (by decide +kernel), (by intro z hz; simp only [List.mem_cons, List.not_mem_nil, or_false] at hz; rcases hz with rfl <;> first | exact ⟨by decide, "java/lang/IllegalArgumentException", mG (4, 202) (by decide +kernel), by decide +kernel⟩)⟩) (fun q4 => ?_) (y_h1 (show mCatch M_W_firstGap 4 11 12 from ⟨[], (0, 9, 12, 13), [(0, 9, 15, 21)], "java/lang/IllegalArgumentException", rfl, by decide, by decide, rfl, mG (4, 202) (by decide +kernel), mN (3, 171) (by decide +kernel), (fun z hz => absurd hz List.not_mem_nil)⟩) (fun q4 => ?_) (y_h0))))
  · refine y_i2l (v := ((v2).toInt64)) d_W_firstGap_7 rfl ?_
    refine y_last d_W_firstGap_8 (fun h5 => ?_)
    refine y_goto (tgt := 18) d_W_firstGap_9 (by decide) ?_
    refine y_iconst (v := (J 0)) d_W_firstGap_18 rfl ?_
    exact y_retI d_W_firstGap_19 rfl rfl
  · refine y_astore_n (loc2 := [some (.ref a0), some (.int a1), some (.ref a2), some (.ref q4)]) d_W_firstGap_15 (Nat.le_of_ble_eq_true rfl) rfl rfl ?_
    refine y_iconst (v := (J 2)) d_W_firstGap_16 rfl ?_
    exact y_retI d_W_firstGap_17 rfl rfl
  · refine y_astore_n (loc2 := [some (.ref a0), some (.int a1), some (.ref a2), some (.ref q4)]) d_W_firstGap_12 (Nat.le_of_ble_eq_true rfl) rfl rfl ?_
    refine y_iconst (v := (J 1)) d_W_firstGap_13 rfl ?_
    exact y_retI d_W_firstGap_14 rfl rfl
noncomputable def P_W_firstGapByShips (Θ : mW) (N : Nat) (h : mH) (a0 : Nat) (a1 : Int32) (a2 : Nat) : Option (Int32 × mH) :=
  (gO Θ h 0 a0 (bx (P_F_firstGapByShips Θ N h a0 a1) (fun v2 h1 => (bo (aWL Θ h1 a2 (J 0) ((v2).toInt64)) (fun h5 => (some ((J 0), h5))))) (fun n9 h3 => if n9 = 10 then (some ((J 2), h3)) else if n9 = 11 then (some ((J 1), h3)) else none)))
theorem S_W_firstGapByShips (hfl : HF l Θ) (hD : 8 ≤ d) (h : mH) (a0 : Nat) (a1 : Int32) (a2 : Nat) : mMs l Θ d M_W_firstGapByShips [.ref a0, .int a1, .ref a2] h (tR vI) (P_W_firstGapByShips Θ N h a0 a1 a2) := by
  refine mMs.of hfl (by decide +kernel) rfl (Nat.le_of_ble_eq_true rfl) (loc := [some (.ref a0), some (.int a1), some (.ref a2), none]) rfl ?_
  unfold P_W_firstGapByShips
  refine y_aload_n d_W_firstGapByShips_0 rfl ?_
  refine y_iconst (v := (J 0)) d_W_firstGapByShips_1 rfl ?_
  refine y_aload_n d_W_firstGapByShips_2 rfl ?_
  refine y_iload_n d_W_firstGapByShips_3 rfl ?_
  refine y_gO (fun fs1 g1 => y_xI (c_vi (rest := [.int (J 0), .ref a2]) d_W_firstGapByShips_4 k_F_firstGapByShips s_W_107 (Or.inl ⟨_, _, _, g1, rfl, rfl⟩) rfl rfl (Nat.le_of_ble_eq_true rfl) (Nat.le_trans (Nat.le_of_ble_eq_true rfl : 7 + 1 ≤ 8) hD) (S_F_firstGapByShips hfl (Nat.le_refl _) h a0 a1)) (fun v2 h1 => ?_) (fun n9 h3 => y_h1 (show mCatch M_W_firstGapByShips 4 10 15 from ⟨[(0, 9, 12, 13)], (0, 9, 15, 21), [], "java/util/NoSuchElementException", rfl, by decide, by decide, rfl, mG (5, 8) (by decide +kernel), mN (5, 23) (by decide +kernel), (by intro z hz; simp only [List.mem_cons, List.not_mem_nil, or_false] at hz; rcases hz with rfl <;> first | exact ⟨by decide, "java/lang/IllegalArgumentException", mG (4, 202) (by decide +kernel), by decide +kernel⟩)⟩) (fun q4 => ?_) (y_h1 (show mCatch M_W_firstGapByShips 4 11 12 from ⟨[], (0, 9, 12, 13), [(0, 9, 15, 21)], "java/lang/IllegalArgumentException", rfl, by decide, by decide, rfl, mG (4, 202) (by decide +kernel), mN (3, 171) (by decide +kernel), (fun z hz => absurd hz List.not_mem_nil)⟩) (fun q4 => ?_) (y_h0))))
  · refine y_i2l (v := ((v2).toInt64)) d_W_firstGapByShips_7 rfl ?_
    refine y_last d_W_firstGapByShips_8 (fun h5 => ?_)
    refine y_goto (tgt := 18) d_W_firstGapByShips_9 (by decide) ?_
    refine y_iconst (v := (J 0)) d_W_firstGapByShips_18 rfl ?_
    exact y_retI d_W_firstGapByShips_19 rfl rfl
  · refine y_astore_n (loc2 := [some (.ref a0), some (.int a1), some (.ref a2), some (.ref q4)]) d_W_firstGapByShips_15 (Nat.le_of_ble_eq_true rfl) rfl rfl ?_
    refine y_iconst (v := (J 2)) d_W_firstGapByShips_16 rfl ?_
    exact y_retI d_W_firstGapByShips_17 rfl rfl
  · refine y_astore_n (loc2 := [some (.ref a0), some (.int a1), some (.ref a2), some (.ref q4)]) d_W_firstGapByShips_12 (Nat.le_of_ble_eq_true rfl) rfl rfl ?_
    refine y_iconst (v := (J 1)) d_W_firstGapByShips_13 rfl ?_
    exact y_retI d_W_firstGapByShips_14 rfl rfl
noncomputable def P_W_billOf (Θ : mW) (N : Nat) (h : mH) (a0 : Nat) (a1 : Int32) (a2 : Nat) : Option (Int32 × mH) :=
  (gO Θ h 0 a0 (bx (P_F_billOf Θ N h a0 a1) (fun v2 h1 => (bo (aWL Θ h1 a2 (J 0) ((v2).toInt64)) (fun h5 => (some ((J 0), h5))))) (fun n9 h3 => if n9 = 10 then (some ((J 1), h3)) else none)))
theorem S_W_billOf (hfl : HF l Θ) (hD : 8 ≤ d) (h : mH) (a0 : Nat) (a1 : Int32) (a2 : Nat) : mMs l Θ d M_W_billOf [.ref a0, .int a1, .ref a2] h (tR vI) (P_W_billOf Θ N h a0 a1 a2) := by
  refine mMs.of hfl (by decide +kernel) rfl (Nat.le_of_ble_eq_true rfl) (loc := [some (.ref a0), some (.int a1), some (.ref a2), none]) rfl ?_
  unfold P_W_billOf
  refine y_aload_n d_W_billOf_0 rfl ?_
  refine y_iconst (v := (J 0)) d_W_billOf_1 rfl ?_
  refine y_aload_n d_W_billOf_2 rfl ?_
  refine y_iload_n d_W_billOf_3 rfl ?_
  refine y_gO (fun fs1 g1 => y_xI (c_vi (rest := [.int (J 0), .ref a2]) d_W_billOf_4 k_F_billOf s_W_110 (Or.inl ⟨_, _, _, g1, rfl, rfl⟩) rfl rfl (Nat.le_of_ble_eq_true rfl) (Nat.le_trans (Nat.le_of_ble_eq_true rfl : 7 + 1 ≤ 8) hD) (S_F_billOf hfl (Nat.le_refl _) h a0 a1)) (fun v2 h1 => ?_) (fun n9 h3 => y_h1 (show mCatch M_W_billOf 4 10 12 from ⟨[], (0, 9, 12, 21), [], "java/util/NoSuchElementException", rfl, by decide, by decide, rfl, mG (5, 8) (by decide +kernel), mN (5, 23) (by decide +kernel), (fun z hz => absurd hz List.not_mem_nil)⟩) (fun q4 => ?_) (y_h0)))
  · refine y_i2l (v := ((v2).toInt64)) d_W_billOf_7 rfl ?_
    refine y_last d_W_billOf_8 (fun h5 => ?_)
    refine y_goto (tgt := 15) d_W_billOf_9 (by decide) ?_
    refine y_iconst (v := (J 0)) d_W_billOf_15 rfl ?_
    exact y_retI d_W_billOf_16 rfl rfl
  · refine y_astore_n (loc2 := [some (.ref a0), some (.int a1), some (.ref a2), some (.ref q4)]) d_W_billOf_12 (Nat.le_of_ble_eq_true rfl) rfl rfl ?_
    refine y_iconst (v := (J 1)) d_W_billOf_13 rfl ?_
    exact y_retI d_W_billOf_14 rfl rfl
noncomputable def P_W_pay (Θ : mW) (N : Nat) (h : mH) (a0 : Nat) (a1 : Int32) (a2 : Int32) (a3 : Nat) : Option (Int32 × mH) :=
  (gO Θ h 0 a0 (bx (P_F_pay Θ N h a0 a1 a2) (fun v2 h1 => (bo (aWL Θ h1 a3 (J 0) ((v2).toInt64)) (fun h5 => (some ((J 0), h5))))) (fun n9 h3 => if n9 = 10 then (some ((J 1), h3)) else if n9 = 11 then (some ((J 2), h3)) else if n9 = 12 then (some ((J 3), h3)) else none)))
theorem S_W_pay (hfl : HF l Θ) (hD : 9 ≤ d) (h : mH) (a0 : Nat) (a1 : Int32) (a2 : Int32) (a3 : Nat) : mMs l Θ d M_W_pay [.ref a0, .int a1, .int a2, .ref a3] h (tR vI) (P_W_pay Θ N h a0 a1 a2 a3) := by
  refine mMs.of hfl (by decide +kernel) rfl (Nat.le_of_ble_eq_true rfl) (loc := [some (.ref a0), some (.int a1), some (.int a2), some (.ref a3), none]) rfl ?_
  unfold P_W_pay
  refine y_aload_n d_W_pay_0 rfl ?_
  refine y_iconst (v := (J 0)) d_W_pay_1 rfl ?_
  refine y_aload_n d_W_pay_2 rfl ?_
  refine y_iload_n d_W_pay_3 rfl ?_
  refine y_iload_n d_W_pay_4 rfl ?_
  refine y_gO (fun fs1 g1 => y_xI (c_vi (rest := [.int (J 0), .ref a3]) d_W_pay_5 k_F_pay s_W_113 (Or.inl ⟨_, _, _, g1, rfl, rfl⟩) rfl rfl (Nat.le_of_ble_eq_true rfl) (Nat.le_trans (Nat.le_of_ble_eq_true rfl : 8 + 1 ≤ 9) hD) (S_F_pay hfl (Nat.le_refl _) h a0 a1 a2)) (fun v2 h1 => ?_) (fun n9 h3 => y_h1 (show mCatch M_W_pay 5 10 13 from ⟨[], (0, 10, 13, 21), [(0, 10, 17, 13), (0, 10, 21, 15)], "java/util/NoSuchElementException", rfl, by decide, by decide, rfl, mG (5, 8) (by decide +kernel), mN (5, 23) (by decide +kernel), (fun z hz => absurd hz List.not_mem_nil)⟩) (fun q4 => ?_) (y_h1 (show mCatch M_W_pay 5 11 17 from ⟨[(0, 10, 13, 21)], (0, 10, 17, 13), [(0, 10, 21, 15)], "java/lang/IllegalArgumentException", rfl, by decide, by decide, rfl, mG (4, 202) (by decide +kernel), mN (3, 171) (by decide +kernel), (by intro z hz; simp only [List.mem_cons, List.not_mem_nil, or_false] at hz; rcases hz with rfl <;> first | exact ⟨by decide, "java/util/NoSuchElementException", mG (5, 8) (by decide +kernel), by decide +kernel⟩)⟩) (fun q4 => ?_) (y_h1 (show mCatch M_W_pay 5 12 21 from ⟨[(0, 10, 13, 21), (0, 10, 17, 13)], (0, 10, 21, 15), [], "java/lang/IllegalStateException", rfl, by decide, by decide, rfl, mG (4, 203) (by decide +kernel), mN (4, 221) (by decide +kernel), (by intro z hz; simp only [List.mem_cons, List.not_mem_nil, or_false] at hz; rcases hz with rfl | rfl <;> first | exact ⟨by decide, "java/util/NoSuchElementException", mG (5, 8) (by decide +kernel), by decide +kernel⟩ | exact ⟨by decide, "java/lang/IllegalArgumentException", mG (4, 202) (by decide +kernel), by decide +kernel⟩)⟩) (fun q4 => ?_) (y_h0)))))
  · refine y_i2l (v := ((v2).toInt64)) d_W_pay_8 rfl ?_
    refine y_last d_W_pay_9 (fun h5 => ?_)
    refine y_goto (tgt := 25) d_W_pay_10 (by decide) ?_
    refine y_iconst (v := (J 0)) d_W_pay_25 rfl ?_
    exact y_retI d_W_pay_26 rfl rfl
  · refine y_astore (loc2 := [some (.ref a0), some (.int a1), some (.int a2), some (.ref a3), some (.ref q4)]) d_W_pay_13 (Nat.le_of_ble_eq_true rfl) rfl rfl ?_
    refine y_iconst (v := (J 1)) d_W_pay_15 rfl ?_
    exact y_retI d_W_pay_16 rfl rfl
  · refine y_astore (loc2 := [some (.ref a0), some (.int a1), some (.int a2), some (.ref a3), some (.ref q4)]) d_W_pay_17 (Nat.le_of_ble_eq_true rfl) rfl rfl ?_
    refine y_iconst (v := (J 2)) d_W_pay_19 rfl ?_
    exact y_retI d_W_pay_20 rfl rfl
  · refine y_astore (loc2 := [some (.ref a0), some (.int a1), some (.int a2), some (.ref a3), some (.ref q4)]) d_W_pay_21 (Nat.le_of_ble_eq_true rfl) rfl rfl ?_
    refine y_iconst (v := (J 3)) d_W_pay_23 rfl ?_
    exact y_retI d_W_pay_24 rfl rfl
noncomputable def P_W_shipAtRank (Θ : mW) (N : Nat) (h : mH) (a0 : Nat) (a1 : Int32) (a2 : Nat) : Option (Int32 × mH) :=
  (gO Θ h 0 a0 (bx (P_F_shipAtRank Θ N h a0 a1) (fun v2 h1 => (bo (aWL Θ h1 a2 (J 0) ((v2).toInt64)) (fun h5 => (some ((J 0), h5))))) (fun n9 h3 => if n9 = 14 then (some ((J 1), h3)) else none)))
theorem S_W_shipAtRank (hfl : HF l Θ) (hD : 7 ≤ d) (h : mH) (a0 : Nat) (a1 : Int32) (a2 : Nat) : mMs l Θ d M_W_shipAtRank [.ref a0, .int a1, .ref a2] h (tR vI) (P_W_shipAtRank Θ N h a0 a1 a2) := by
  refine mMs.of hfl (by decide +kernel) rfl (Nat.le_of_ble_eq_true rfl) (loc := [some (.ref a0), some (.int a1), some (.ref a2), none]) rfl ?_
  unfold P_W_shipAtRank
  refine y_aload_n d_W_shipAtRank_0 rfl ?_
  refine y_iconst (v := (J 0)) d_W_shipAtRank_1 rfl ?_
  refine y_aload_n d_W_shipAtRank_2 rfl ?_
  refine y_iload_n d_W_shipAtRank_3 rfl ?_
  refine y_gO (fun fs1 g1 => y_xI (c_vi (rest := [.int (J 0), .ref a2]) d_W_shipAtRank_4 k_F_shipAtRank s_W_116 (Or.inl ⟨_, _, _, g1, rfl, rfl⟩) rfl rfl (Nat.le_of_ble_eq_true rfl) (Nat.le_trans (Nat.le_of_ble_eq_true rfl : 6 + 1 ≤ 7) hD) (S_F_shipAtRank hfl (Nat.le_refl _) h a0 a1)) (fun v2 h1 => ?_) (fun n9 h3 => y_h1 (show mCatch M_W_shipAtRank 4 14 12 from ⟨[], (0, 9, 12, 39), [], "java/lang/IndexOutOfBoundsException", rfl, by decide, by decide, rfl, mG (5, 141) (by decide +kernel), mN (5, 150) (by decide +kernel), (fun z hz => absurd hz List.not_mem_nil)⟩) (fun q4 => ?_) (y_h0)))
  · refine y_i2l (v := ((v2).toInt64)) d_W_shipAtRank_7 rfl ?_
    refine y_last d_W_shipAtRank_8 (fun h5 => ?_)
    refine y_goto (tgt := 15) d_W_shipAtRank_9 (by decide) ?_
    refine y_iconst (v := (J 0)) d_W_shipAtRank_15 rfl ?_
    exact y_retI d_W_shipAtRank_16 rfl rfl
  · refine y_astore_n (loc2 := [some (.ref a0), some (.int a1), some (.ref a2), some (.ref q4)]) d_W_shipAtRank_12 (Nat.le_of_ble_eq_true rfl) rfl rfl ?_
    refine y_iconst (v := (J 1)) d_W_shipAtRank_13 rfl ?_
    exact y_retI d_W_shipAtRank_14 rfl rfl
noncomputable def P_W_append (Θ : mW) (N : Nat) (h : mH) (a0 : Nat) (a1 : Int32) (a2 : Nat) : Option (Int32 × mH) :=
  (gO Θ h 0 a0 (bx (P_F_append Θ N h a0 a1) (fun v2 h1 => (bo (aWL Θ h1 a2 (J 0) ((v2).toInt64)) (fun h5 => (some ((J 0), h5))))) (fun n9 h3 => if n9 = 11 then (some ((J 1), h3)) else if n9 = 12 then (some ((J 2), h3)) else none)))
theorem S_W_append (hfl : HF l Θ) (hD : 8 ≤ d) (h : mH) (a0 : Nat) (a1 : Int32) (a2 : Nat) : mMs l Θ d M_W_append [.ref a0, .int a1, .ref a2] h (tR vI) (P_W_append Θ N h a0 a1 a2) := by
  refine mMs.of hfl (by decide +kernel) rfl (Nat.le_of_ble_eq_true rfl) (loc := [some (.ref a0), some (.int a1), some (.ref a2), none]) rfl ?_
  unfold P_W_append
  refine y_aload_n d_W_append_0 rfl ?_
  refine y_iconst (v := (J 0)) d_W_append_1 rfl ?_
  refine y_aload_n d_W_append_2 rfl ?_
  refine y_iload_n d_W_append_3 rfl ?_
  refine y_gO (fun fs1 g1 => y_xI (c_vi (rest := [.int (J 0), .ref a2]) d_W_append_4 k_F_append s_W_119 (Or.inl ⟨_, _, _, g1, rfl, rfl⟩) rfl rfl (Nat.le_of_ble_eq_true rfl) (Nat.le_trans (Nat.le_of_ble_eq_true rfl : 7 + 1 ≤ 8) hD) (S_F_append hfl (Nat.le_refl _) h a0 a1)) (fun v2 h1 => ?_) (fun n9 h3 => y_h1 (show mCatch M_W_append 4 11 12 from ⟨[], (0, 9, 12, 13), [(0, 9, 15, 15)], "java/lang/IllegalArgumentException", rfl, by decide, by decide, rfl, mG (4, 202) (by decide +kernel), mN (3, 171) (by decide +kernel), (fun z hz => absurd hz List.not_mem_nil)⟩) (fun q4 => ?_) (y_h1 (show mCatch M_W_append 4 12 15 from ⟨[(0, 9, 12, 13)], (0, 9, 15, 15), [], "java/lang/IllegalStateException", rfl, by decide, by decide, rfl, mG (4, 203) (by decide +kernel), mN (4, 221) (by decide +kernel), (by intro z hz; simp only [List.mem_cons, List.not_mem_nil, or_false] at hz; rcases hz with rfl <;> first | exact ⟨by decide, "java/lang/IllegalArgumentException", mG (4, 202) (by decide +kernel), by decide +kernel⟩)⟩) (fun q4 => ?_) (y_h0))))
  · refine y_i2l (v := ((v2).toInt64)) d_W_append_7 rfl ?_
    refine y_last d_W_append_8 (fun h5 => ?_)
    refine y_goto (tgt := 18) d_W_append_9 (by decide) ?_
    refine y_iconst (v := (J 0)) d_W_append_18 rfl ?_
    exact y_retI d_W_append_19 rfl rfl
  · refine y_astore_n (loc2 := [some (.ref a0), some (.int a1), some (.ref a2), some (.ref q4)]) d_W_append_12 (Nat.le_of_ble_eq_true rfl) rfl rfl ?_
    refine y_iconst (v := (J 1)) d_W_append_13 rfl ?_
    exact y_retI d_W_append_14 rfl rfl
  · refine y_astore_n (loc2 := [some (.ref a0), some (.int a1), some (.ref a2), some (.ref q4)]) d_W_append_15 (Nat.le_of_ble_eq_true rfl) rfl rfl ?_
    refine y_iconst (v := (J 2)) d_W_append_16 rfl ?_
    exact y_retI d_W_append_17 rfl rfl
noncomputable def P_W_run (Θ : mW) (N : Nat) (h : mH) (a0 : Nat) (a1 : Nat) : Option (Int32 × mH) :=
  (gO Θ h 0 a0 (bx (P_F_run Θ N h a0) (fun v2 h1 => (bo (aWL Θ h1 a1 (J 0) ((v2).toInt64)) (fun h5 => (some ((J 0), h5))))) (fun n9 h3 => if n9 = 11 then (some ((J 1), h3)) else if n9 = 12 then (some ((J 2), h3)) else none)))
theorem S_W_run (hfl : HF l Θ) (hD : 13 ≤ d) (h : mH) (a0 : Nat) (a1 : Nat) : mMs l Θ d M_W_run [.ref a0, .ref a1] h (tR vI) (P_W_run Θ N h a0 a1) := by
  refine mMs.of hfl (by decide +kernel) rfl (Nat.le_of_ble_eq_true rfl) (loc := [some (.ref a0), some (.ref a1), none]) rfl ?_
  unfold P_W_run
  refine y_aload_n d_W_run_0 rfl ?_
  refine y_iconst (v := (J 0)) d_W_run_1 rfl ?_
  refine y_aload_n d_W_run_2 rfl ?_
  refine y_gO (fun fs1 g1 => y_xI (c_vi (rest := [.int (J 0), .ref a1]) d_W_run_3 k_F_run s_W_123 (Or.inl ⟨_, _, _, g1, rfl, rfl⟩) rfl rfl (Nat.le_of_ble_eq_true rfl) (Nat.le_trans (Nat.le_of_ble_eq_true rfl : 12 + 1 ≤ 13) hD) (S_F_run hfl (Nat.le_refl _) h a0)) (fun v2 h1 => ?_) (fun n9 h3 => y_h1 (show mCatch M_W_run 3 11 11 from ⟨[], (0, 8, 11, 13), [(0, 8, 14, 15)], "java/lang/IllegalArgumentException", rfl, by decide, by decide, rfl, mG (4, 202) (by decide +kernel), mN (3, 171) (by decide +kernel), (fun z hz => absurd hz List.not_mem_nil)⟩) (fun q4 => ?_) (y_h1 (show mCatch M_W_run 3 12 14 from ⟨[(0, 8, 11, 13)], (0, 8, 14, 15), [], "java/lang/IllegalStateException", rfl, by decide, by decide, rfl, mG (4, 203) (by decide +kernel), mN (4, 221) (by decide +kernel), (by intro z hz; simp only [List.mem_cons, List.not_mem_nil, or_false] at hz; rcases hz with rfl <;> first | exact ⟨by decide, "java/lang/IllegalArgumentException", mG (4, 202) (by decide +kernel), by decide +kernel⟩)⟩) (fun q4 => ?_) (y_h0))))
  · refine y_i2l (v := ((v2).toInt64)) d_W_run_6 rfl ?_
    refine y_last d_W_run_7 (fun h5 => ?_)
    refine y_goto (tgt := 17) d_W_run_8 (by decide) ?_
    refine y_iconst (v := (J 0)) d_W_run_17 rfl ?_
    exact y_retI d_W_run_18 rfl rfl
  · refine y_astore_n (loc2 := [some (.ref a0), some (.ref a1), some (.ref q4)]) d_W_run_11 (Nat.le_of_ble_eq_true rfl) rfl rfl ?_
    refine y_iconst (v := (J 1)) d_W_run_12 rfl ?_
    exact y_retI d_W_run_13 rfl rfl
  · refine y_astore_n (loc2 := [some (.ref a0), some (.ref a1), some (.ref q4)]) d_W_run_14 (Nat.le_of_ble_eq_true rfl) rfl rfl ?_
    refine y_iconst (v := (J 2)) d_W_run_15 rfl ?_
    exact y_retI d_W_run_16 rfl rfl
noncomputable def P_W_errorPosition (Θ : mW) (N : Nat) (h : mH) (a0 : Nat) (a1 : Nat) : Option (Int32 × mH) :=
  (gO Θ h 0 a0 (bx (P_F_errorPosition Θ N h a0) (fun v2 h1 => (bo (aWL Θ h1 a1 (J 0) ((v2).toInt64)) (fun h5 => (some ((J 0), h5))))) (fun n9 h3 => if n9 = 10 then (some ((J 1), h3)) else none)))
theorem S_W_errorPosition (hfl : HF l Θ) (hD : 7 ≤ d) (h : mH) (a0 : Nat) (a1 : Nat) : mMs l Θ d M_W_errorPosition [.ref a0, .ref a1] h (tR vI) (P_W_errorPosition Θ N h a0 a1) := by
  refine mMs.of hfl (by decide +kernel) rfl (Nat.le_of_ble_eq_true rfl) (loc := [some (.ref a0), some (.ref a1), none]) rfl ?_
  unfold P_W_errorPosition
  refine y_aload_n d_W_errorPosition_0 rfl ?_
  refine y_iconst (v := (J 0)) d_W_errorPosition_1 rfl ?_
  refine y_aload_n d_W_errorPosition_2 rfl ?_
  refine y_gO (fun fs1 g1 => y_xI (c_vi (rest := [.int (J 0), .ref a1]) d_W_errorPosition_3 k_F_errorPosition s_W_126 (Or.inl ⟨_, _, _, g1, rfl, rfl⟩) rfl rfl (Nat.le_of_ble_eq_true rfl) (Nat.le_trans (Nat.le_of_ble_eq_true rfl : 6 + 1 ≤ 7) hD) (S_F_errorPosition hfl (Nat.le_refl _) h a0)) (fun v2 h1 => ?_) (fun n9 h3 => y_h1 (show mCatch M_W_errorPosition 3 10 11 from ⟨[], (0, 8, 11, 21), [], "java/util/NoSuchElementException", rfl, by decide, by decide, rfl, mG (5, 8) (by decide +kernel), mN (5, 23) (by decide +kernel), (fun z hz => absurd hz List.not_mem_nil)⟩) (fun q4 => ?_) (y_h0)))
  · refine y_i2l (v := ((v2).toInt64)) d_W_errorPosition_6 rfl ?_
    refine y_last d_W_errorPosition_7 (fun h5 => ?_)
    refine y_goto (tgt := 14) d_W_errorPosition_8 (by decide) ?_
    refine y_iconst (v := (J 0)) d_W_errorPosition_14 rfl ?_
    exact y_retI d_W_errorPosition_15 rfl rfl
  · refine y_astore_n (loc2 := [some (.ref a0), some (.ref a1), some (.ref q4)]) d_W_errorPosition_11 (Nat.le_of_ble_eq_true rfl) rfl rfl ?_
    refine y_iconst (v := (J 1)) d_W_errorPosition_12 rfl ?_
    exact y_retI d_W_errorPosition_13 rfl rfl
noncomputable def P_W_failedCommand (Θ : mW) (N : Nat) (h : mH) (a0 : Nat) (a1 : Nat) : Option (Int32 × mH) :=
  (gO Θ h 0 a0 (bx (P_F_failedCommand Θ N h a0) (fun v2 h1 => (bo (aWL Θ h1 a1 (J 0) ((v2).toInt64)) (fun h5 => (some ((J 0), h5))))) (fun n9 h3 => if n9 = 10 then (some ((J 1), h3)) else none)))
theorem S_W_failedCommand (hfl : HF l Θ) (hD : 7 ≤ d) (h : mH) (a0 : Nat) (a1 : Nat) : mMs l Θ d M_W_failedCommand [.ref a0, .ref a1] h (tR vI) (P_W_failedCommand Θ N h a0 a1) := by
  refine mMs.of hfl (by decide +kernel) rfl (Nat.le_of_ble_eq_true rfl) (loc := [some (.ref a0), some (.ref a1), none]) rfl ?_
  unfold P_W_failedCommand
  refine y_aload_n d_W_failedCommand_0 rfl ?_
  refine y_iconst (v := (J 0)) d_W_failedCommand_1 rfl ?_
  refine y_aload_n d_W_failedCommand_2 rfl ?_
  refine y_gO (fun fs1 g1 => y_xI (c_vi (rest := [.int (J 0), .ref a1]) d_W_failedCommand_3 k_F_failedCommand s_W_129 (Or.inl ⟨_, _, _, g1, rfl, rfl⟩) rfl rfl (Nat.le_of_ble_eq_true rfl) (Nat.le_trans (Nat.le_of_ble_eq_true rfl : 6 + 1 ≤ 7) hD) (S_F_failedCommand hfl (Nat.le_refl _) h a0)) (fun v2 h1 => ?_) (fun n9 h3 => y_h1 (show mCatch M_W_failedCommand 3 10 11 from ⟨[], (0, 8, 11, 21), [], "java/util/NoSuchElementException", rfl, by decide, by decide, rfl, mG (5, 8) (by decide +kernel), mN (5, 23) (by decide +kernel), (fun z hz => absurd hz List.not_mem_nil)⟩) (fun q4 => ?_) (y_h0)))
  · refine y_i2l (v := ((v2).toInt64)) d_W_failedCommand_6 rfl ?_
    refine y_last d_W_failedCommand_7 (fun h5 => ?_)
    refine y_goto (tgt := 14) d_W_failedCommand_8 (by decide) ?_
    refine y_iconst (v := (J 0)) d_W_failedCommand_14 rfl ?_
    exact y_retI d_W_failedCommand_15 rfl rfl
  · refine y_astore_n (loc2 := [some (.ref a0), some (.ref a1), some (.ref q4)]) d_W_failedCommand_11 (Nat.le_of_ble_eq_true rfl) rfl rfl ?_
    refine y_iconst (v := (J 1)) d_W_failedCommand_12 rfl ?_
    exact y_retI d_W_failedCommand_13 rfl rfl
noncomputable def P_W_describeBill (Θ : mW) (N : Nat) (h : mH) (a0 : Nat) (a1 : Int32) (a2 : Nat) : Option (Int32 × mH) :=
  (gO Θ h 0 a0 (bx (P_F_describeBill Θ N h a0 a1) (fun v2 h1 => (bo (aWL Θ h1 a2 (J 0) ((v2).toInt64)) (fun h5 => (some ((J 0), h5))))) (fun n9 h3 => if n9 = 10 then (some ((J 1), h3)) else none)))
theorem S_W_describeBill (hfl : HF l Θ) (hD : 8 ≤ d) (h : mH) (a0 : Nat) (a1 : Int32) (a2 : Nat) : mMs l Θ d M_W_describeBill [.ref a0, .int a1, .ref a2] h (tR vI) (P_W_describeBill Θ N h a0 a1 a2) := by
  refine mMs.of hfl (by decide +kernel) rfl (Nat.le_of_ble_eq_true rfl) (loc := [some (.ref a0), some (.int a1), some (.ref a2), none]) rfl ?_
  unfold P_W_describeBill
  refine y_aload_n d_W_describeBill_0 rfl ?_
  refine y_iconst (v := (J 0)) d_W_describeBill_1 rfl ?_
  refine y_aload_n d_W_describeBill_2 rfl ?_
  refine y_iload_n d_W_describeBill_3 rfl ?_
  refine y_gO (fun fs1 g1 => y_xI (c_vi (rest := [.int (J 0), .ref a2]) d_W_describeBill_4 k_F_describeBill s_W_132 (Or.inl ⟨_, _, _, g1, rfl, rfl⟩) rfl rfl (Nat.le_of_ble_eq_true rfl) (Nat.le_trans (Nat.le_of_ble_eq_true rfl : 7 + 1 ≤ 8) hD) (S_F_describeBill hfl (Nat.le_refl _) h a0 a1)) (fun v2 h1 => ?_) (fun n9 h3 => y_h1 (show mCatch M_W_describeBill 4 10 12 from ⟨[], (0, 9, 12, 21), [], "java/util/NoSuchElementException", rfl, by decide, by decide, rfl, mG (5, 8) (by decide +kernel), mN (5, 23) (by decide +kernel), (fun z hz => absurd hz List.not_mem_nil)⟩) (fun q4 => ?_) (y_h0)))
  · refine y_i2l (v := ((v2).toInt64)) d_W_describeBill_7 rfl ?_
    refine y_last d_W_describeBill_8 (fun h5 => ?_)
    refine y_goto (tgt := 15) d_W_describeBill_9 (by decide) ?_
    refine y_iconst (v := (J 0)) d_W_describeBill_15 rfl ?_
    exact y_retI d_W_describeBill_16 rfl rfl
  · refine y_astore_n (loc2 := [some (.ref a0), some (.int a1), some (.ref a2), some (.ref q4)]) d_W_describeBill_12 (Nat.le_of_ble_eq_true rfl) rfl rfl ?_
    refine y_iconst (v := (J 1)) d_W_describeBill_13 rfl ?_
    exact y_retI d_W_describeBill_14 rfl rfl
noncomputable def P_W_lineAt (Θ : mW) (N : Nat) (h : mH) (a0 : Nat) (a1 : Int32) (a2 : Nat) : Option (Int32 × mH) :=
  (gO Θ h 0 a0 (bx (P_F_lineAt Θ N h a0 a1) (fun v2 h1 => (bo (aWL Θ h1 a2 (J 0) ((v2).toInt64)) (fun h5 => (some ((J 0), h5))))) (fun n9 h3 => if n9 = 14 then (some ((J 1), h3)) else none)))
theorem S_W_lineAt (hfl : HF l Θ) (hD : 7 ≤ d) (h : mH) (a0 : Nat) (a1 : Int32) (a2 : Nat) : mMs l Θ d M_W_lineAt [.ref a0, .int a1, .ref a2] h (tR vI) (P_W_lineAt Θ N h a0 a1 a2) := by
  refine mMs.of hfl (by decide +kernel) rfl (Nat.le_of_ble_eq_true rfl) (loc := [some (.ref a0), some (.int a1), some (.ref a2), none]) rfl ?_
  unfold P_W_lineAt
  refine y_aload_n d_W_lineAt_0 rfl ?_
  refine y_iconst (v := (J 0)) d_W_lineAt_1 rfl ?_
  refine y_aload_n d_W_lineAt_2 rfl ?_
  refine y_iload_n d_W_lineAt_3 rfl ?_
  refine y_gO (fun fs1 g1 => y_xI (c_vi (rest := [.int (J 0), .ref a2]) d_W_lineAt_4 k_F_lineAt s_W_135 (Or.inl ⟨_, _, _, g1, rfl, rfl⟩) rfl rfl (Nat.le_of_ble_eq_true rfl) (Nat.le_trans (Nat.le_of_ble_eq_true rfl : 6 + 1 ≤ 7) hD) (S_F_lineAt hfl (Nat.le_refl _) h a0 a1)) (fun v2 h1 => ?_) (fun n9 h3 => y_h1 (show mCatch M_W_lineAt 4 14 12 from ⟨[], (0, 9, 12, 39), [], "java/lang/IndexOutOfBoundsException", rfl, by decide, by decide, rfl, mG (5, 141) (by decide +kernel), mN (5, 150) (by decide +kernel), (fun z hz => absurd hz List.not_mem_nil)⟩) (fun q4 => ?_) (y_h0)))
  · refine y_i2l (v := ((v2).toInt64)) d_W_lineAt_7 rfl ?_
    refine y_last d_W_lineAt_8 (fun h5 => ?_)
    refine y_goto (tgt := 15) d_W_lineAt_9 (by decide) ?_
    refine y_iconst (v := (J 0)) d_W_lineAt_15 rfl ?_
    exact y_retI d_W_lineAt_16 rfl rfl
  · refine y_astore_n (loc2 := [some (.ref a0), some (.int a1), some (.ref a2), some (.ref q4)]) d_W_lineAt_12 (Nat.le_of_ble_eq_true rfl) rfl rfl ?_
    refine y_iconst (v := (J 1)) d_W_lineAt_13 rfl ?_
    exact y_retI d_W_lineAt_14 rfl rfl
noncomputable def P_W_meanDirt (Θ : mW) (N : Nat) (h : mH) (a0 : Nat) (a1 : Nat) : Option (Int32 × mH) :=
  (gO Θ h 0 a0 (bx (P_F_meanDirt Θ N h a0) (fun v2 h1 => (bo (aWD Θ h1 a1 (J 0) v2) (fun h5 => (some ((J 0), h5))))) (fun n9 h3 => if n9 = 15 then (some ((J 1), h3)) else none)))
theorem S_W_meanDirt (hfl : HF l Θ) (hD : 7 ≤ d) (h : mH) (a0 : Nat) (a1 : Nat) : mMs l Θ d M_W_meanDirt [.ref a0, .ref a1] h (tR vI) (P_W_meanDirt Θ N h a0 a1) := by
  refine mMs.of hfl (by decide +kernel) rfl (Nat.le_of_ble_eq_true rfl) (loc := [some (.ref a0), some (.ref a1), none]) rfl ?_
  unfold P_W_meanDirt
  refine y_aload_n d_W_meanDirt_0 rfl ?_
  refine y_iconst (v := (J 0)) d_W_meanDirt_1 rfl ?_
  refine y_aload_n d_W_meanDirt_2 rfl ?_
  refine y_gO (fun fs1 g1 => y_xD (c_vi (rest := [.int (J 0), .ref a1]) d_W_meanDirt_3 k_F_meanDirt s_W_139 (Or.inl ⟨_, _, _, g1, rfl, rfl⟩) rfl rfl (Nat.le_of_ble_eq_true rfl) (Nat.le_trans (Nat.le_of_ble_eq_true rfl : 6 + 1 ≤ 7) hD) (S_F_meanDirt hfl (Nat.le_refl _) h a0)) (fun v2 h1 => ?_) (fun n9 h3 => y_h1 (show mCatch M_W_meanDirt 3 15 10 from ⟨[], (0, 7, 10, 143), [], "java/lang/ArithmeticException", rfl, by decide, by decide, rfl, mG (7, 151) (by decide +kernel), mN (7, 163) (by decide +kernel), (fun z hz => absurd hz List.not_mem_nil)⟩) (fun q4 => ?_) (y_h0)))
  · refine y_dast d_W_meanDirt_6 (fun h5 => ?_)
    refine y_goto (tgt := 13) d_W_meanDirt_7 (by decide) ?_
    refine y_iconst (v := (J 0)) d_W_meanDirt_13 rfl ?_
    exact y_retI d_W_meanDirt_14 rfl rfl
  · refine y_astore_n (loc2 := [some (.ref a0), some (.ref a1), some (.ref q4)]) d_W_meanDirt_10 (Nat.le_of_ble_eq_true rfl) rfl rfl ?_
    refine y_iconst (v := (J 1)) d_W_meanDirt_11 rfl ?_
    exact y_retI d_W_meanDirt_12 rfl rfl
noncomputable def P_W_undo (Θ : mW) (N : Nat) (h : mH) (a0 : Nat) (a1 : Nat) : Option (Int32 × mH) :=
  (gO Θ h 0 a0 (bx (P_F_undo Θ N h a0) (fun v2 h1 => (bo (aWL Θ h1 a1 (J 0) ((v2).toInt64)) (fun h5 => (some ((J 0), h5))))) (fun n9 h3 => if n9 = 12 then (some ((J 1), h3)) else none)))
theorem S_W_undo (hfl : HF l Θ) (hD : 7 ≤ d) (h : mH) (a0 : Nat) (a1 : Nat) : mMs l Θ d M_W_undo [.ref a0, .ref a1] h (tR vI) (P_W_undo Θ N h a0 a1) := by
  refine mMs.of hfl (by decide +kernel) rfl (Nat.le_of_ble_eq_true rfl) (loc := [some (.ref a0), some (.ref a1), none]) rfl ?_
  unfold P_W_undo
  refine y_aload_n d_W_undo_0 rfl ?_
  refine y_iconst (v := (J 0)) d_W_undo_1 rfl ?_
  refine y_aload_n d_W_undo_2 rfl ?_
  refine y_gO (fun fs1 g1 => y_xI (c_vi (rest := [.int (J 0), .ref a1]) d_W_undo_3 k_F_undo s_W_145 (Or.inl ⟨_, _, _, g1, rfl, rfl⟩) rfl rfl (Nat.le_of_ble_eq_true rfl) (Nat.le_trans (Nat.le_of_ble_eq_true rfl : 6 + 1 ≤ 7) hD) (S_F_undo hfl (Nat.le_refl _) h a0)) (fun v2 h1 => ?_) (fun n9 h3 => y_h1 (show mCatch M_W_undo 3 12 11 from ⟨[], (0, 8, 11, 15), [], "java/lang/IllegalStateException", rfl, by decide, by decide, rfl, mG (4, 203) (by decide +kernel), mN (4, 221) (by decide +kernel), (fun z hz => absurd hz List.not_mem_nil)⟩) (fun q4 => ?_) (y_h0)))
  · refine y_i2l (v := ((v2).toInt64)) d_W_undo_6 rfl ?_
    refine y_last d_W_undo_7 (fun h5 => ?_)
    refine y_goto (tgt := 14) d_W_undo_8 (by decide) ?_
    refine y_iconst (v := (J 0)) d_W_undo_14 rfl ?_
    exact y_retI d_W_undo_15 rfl rfl
  · refine y_astore_n (loc2 := [some (.ref a0), some (.ref a1), some (.ref q4)]) d_W_undo_11 (Nat.le_of_ble_eq_true rfl) rfl rfl ?_
    refine y_iconst (v := (J 1)) d_W_undo_12 rfl ?_
    exact y_retI d_W_undo_13 rfl rfl
noncomputable def P_W_restore (Θ : mW) (N : Nat) (h : mH) (a0 : Nat) (a1 : Nat) : Option (Int32 × mH) :=
  (gO Θ h 0 a0 (bx (P_F_restore Θ N h a0) (fun v2 h1 => (bo (aWL Θ h1 a1 (J 0) ((v2).toInt64)) (fun h5 => (some ((J 0), h5))))) (fun n9 h3 => if n9 = 12 then (some ((J 1), h3)) else none)))
theorem S_W_restore (hfl : HF l Θ) (hD : 7 ≤ d) (h : mH) (a0 : Nat) (a1 : Nat) : mMs l Θ d M_W_restore [.ref a0, .ref a1] h (tR vI) (P_W_restore Θ N h a0 a1) := by
  refine mMs.of hfl (by decide +kernel) rfl (Nat.le_of_ble_eq_true rfl) (loc := [some (.ref a0), some (.ref a1), none]) rfl ?_
  unfold P_W_restore
  refine y_aload_n d_W_restore_0 rfl ?_
  refine y_iconst (v := (J 0)) d_W_restore_1 rfl ?_
  refine y_aload_n d_W_restore_2 rfl ?_
  refine y_gO (fun fs1 g1 => y_xI (c_vi (rest := [.int (J 0), .ref a1]) d_W_restore_3 k_F_restore s_W_148 (Or.inl ⟨_, _, _, g1, rfl, rfl⟩) rfl rfl (Nat.le_of_ble_eq_true rfl) (Nat.le_trans (Nat.le_of_ble_eq_true rfl : 6 + 1 ≤ 7) hD) (S_F_restore hfl (Nat.le_refl _) h a0)) (fun v2 h1 => ?_) (fun n9 h3 => y_h1 (show mCatch M_W_restore 3 12 11 from ⟨[], (0, 8, 11, 15), [], "java/lang/IllegalStateException", rfl, by decide, by decide, rfl, mG (4, 203) (by decide +kernel), mN (4, 221) (by decide +kernel), (fun z hz => absurd hz List.not_mem_nil)⟩) (fun q4 => ?_) (y_h0)))
  · refine y_i2l (v := ((v2).toInt64)) d_W_restore_6 rfl ?_
    refine y_last d_W_restore_7 (fun h5 => ?_)
    refine y_goto (tgt := 14) d_W_restore_8 (by decide) ?_
    refine y_iconst (v := (J 0)) d_W_restore_14 rfl ?_
    exact y_retI d_W_restore_15 rfl rfl
  · refine y_astore_n (loc2 := [some (.ref a0), some (.ref a1), some (.ref q4)]) d_W_restore_11 (Nat.le_of_ble_eq_true rfl) rfl rfl ?_
    refine y_iconst (v := (J 1)) d_W_restore_12 rfl ?_
    exact y_retI d_W_restore_13 rfl rfl
end GP
