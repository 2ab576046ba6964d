/-! the law's own program -/
section GP
variable {l : Launch} {Θ : mW} {d N : Nat}
noncomputable def B_W_law_15 (Θ : mW) (N : Nat) (K105 : mH → Option ((Int32 ⊕ Nat) × mH)) (f1_ : Nat) (rc : mH → Int32 → Option ((Int32 ⊕ Nat) × mH)) (h : mH) (v2_ : Int32) : Option ((Int32 ⊕ Nat) × mH) :=
  (if (J 7) ≤ v2_ then (K105 h) else (bx (P_W_any Θ N h f1_ ((J 200) + ((J 6) * v2_))) (fun v8 h7 => (bx (P_W_arePositionsRight Θ N h7 f1_) (fun v10 h9 => (if v10 = 0 then (some (.inl (J 0), h9)) else (bx (P_W_areFitsRight Θ N h9 f1_) (fun v12 h11 => (if v12 = 0 then (some (.inl (J 0), h11)) else (bx (P_W_areShipsRight Θ N h11 f1_) (fun v14 h13 => (if v14 = 0 then (some (.inl (J 0), h13)) else (bc (P_W_pick Θ N h13 ((J 300) + v2_) (J 10000)) (fun v16 h15 => (bx (P_W_isSeaRight Θ N h15 f1_ v16) (fun v18 h17 => (if v18 = 0 then (some (.inl (J 0), h17)) else (bc (P_W_pick Θ N h17 ((J 320) + v2_) (J 8)) (fun v20 h19 => (bx (P_W_ship Θ N h19 f1_ v20) (fun v22 h21 => (bx (P_W_areHoursRight Θ N h21 f1_ v22) (fun v24 h23 => (if v24 = 0 then (some (.inl (J 0), h23)) else (rc h23 (v2_ + (J 1))))) (fun n9 h9 => xp n9 h9))) (fun n9 h9 => xp n9 h9)))))) (fun n9 h9 => xp n9 h9)))))) (fun n9 h9 => xp n9 h9)))) (fun n9 h9 => xp n9 h9)))) (fun n9 h9 => xp n9 h9))) (fun n9 h9 => xp n9 h9)))
noncomputable def P_W_law_15 (Θ : mW) (N : Nat) (K105 : mH → Option ((Int32 ⊕ Nat) × mH)) (f1_ : Nat) : Nat → mH → Int32 → Option ((Int32 ⊕ Nat) × mH) :=
  lp (fun _ _ => none) (B_W_law_15 Θ N K105 f1_)
noncomputable def P_W_law (Θ : mW) (N : Nat) (h : mH) : Option ((Int32 ⊕ Nat) × mH) :=
  (al Θ h (oB 0 [.null, .null, .null, .null, .int 0, .null, .null, .null, .int 0, .int 0, .int 0]) (fun q1 h2 => (bc (P_F_init Θ N h2 q1) (fun v4 h3 => (bc (P_W_lay Θ N h3 q1) (fun v6 h5 => (P_W_law_15 Θ N (fun h25 => (some (.inl (J 1), h25))) q1 N h5 (J 0))))))))
theorem SB_W_law_15 (hfl : HF l Θ) (hD : 14 ≤ d) {K105 : mH → Option ((Int32 ⊕ Nat) × mH)} {f1_ : Nat}  (hK105 : ∀ (h : mH), mY l Θ d M_W_law 105 [none, none, none, none] [] h (tX vI) (K105 h)) (rc : mH → Int32 → Option ((Int32 ⊕ Nat) × mH)) (ih : ∀ (h : mH) (v2_ : Int32), mY l Θ d M_W_law 15 [some (.ref (mwad Θ 40)), some (.ref f1_), some (.int v2_), none] [] h (tX vI) (rc h v2_)) : ∀ (h : mH) (v2_ : Int32), mY l Θ d M_W_law 15 [some (.ref (mwad Θ 40)), some (.ref f1_), some (.int v2_), none] [] h (tX vI) (B_W_law_15 Θ N K105 f1_ rc h v2_) := by
  intro h v2_
  unfold B_W_law_15
  refine y_iload_n d_W_law_15 rfl ?_
  refine y_bipush (v := (J 7)) d_W_law_16 (by decide +kernel) ?_
  refine y_icmp_ge (tgt := 105) d_W_law_18 (by decide) ?_ ?_
  · exact y_wk (loc2 := [none, none, none, none]) trivial (hK105 h)
  · refine y_aload_n d_W_law_21 rfl ?_
    refine y_aload_n d_W_law_22 rfl ?_
    refine y_sipush (v := (J 200)) d_W_law_23 (by decide +kernel) ?_
    refine y_bipush (v := (J 6)) d_W_law_26 (by decide +kernel) ?_
    refine y_iload_n d_W_law_28 rfl ?_
    refine y_imul (v := ((J 6) * v2_)) d_W_law_29 rfl ?_
    refine y_iadd (v := ((J 200) + ((J 6) * v2_))) d_W_law_30 rfl ?_
    refine y_xI (c_st (rest := []) d_W_law_31 k_W_any s_W_292 rfl rfl (Nat.le_of_ble_eq_true rfl) (Nat.le_trans (Nat.le_of_ble_eq_true rfl : 13 + 1 ≤ 14) hD) (S_W_any hfl (Nat.le_refl _) h f1_ ((J 200) + ((J 6) * v2_)))) (fun v8 h7 => ?_) (fun _ _ => y_hp rfl)
    refine y_istore_n (loc2 := [some (.ref (mwad Θ 40)), some (.ref f1_), some (.int v2_), some (.int v8)]) d_W_law_34 (Nat.le_of_ble_eq_true rfl) rfl rfl ?_
    refine y_aload_n d_W_law_35 rfl ?_
    refine y_xI (c_st (rest := []) d_W_law_36 k_W_arePositionsRight s_W_296 rfl rfl (Nat.le_of_ble_eq_true rfl) (Nat.le_trans (Nat.le_of_ble_eq_true rfl : 12 + 1 ≤ 14) hD) (S_W_arePositionsRight hfl (Nat.le_refl _) h7 f1_)) (fun v10 h9 => ?_) (fun _ _ => y_hp rfl)
    refine y_if_eq (tgt := 97) d_W_law_39 (by decide) ?_ ?_
    · refine y_iconst (v := (J 0)) d_W_law_97 rfl ?_
      exact y_retIX d_W_law_98 rfl (by decide +kernel)
    · refine y_aload_n d_W_law_42 rfl ?_
      refine y_xI (c_st (rest := []) d_W_law_43 k_W_areFitsRight s_W_300 rfl rfl (Nat.le_of_ble_eq_true rfl) (Nat.le_trans (Nat.le_of_ble_eq_true rfl : 13 + 1 ≤ 14) hD) (S_W_areFitsRight hfl (Nat.le_refl _) h9 f1_)) (fun v12 h11 => ?_) (fun _ _ => y_hp rfl)
      refine y_if_eq (tgt := 97) d_W_law_46 (by decide) ?_ ?_
      · refine y_iconst (v := (J 0)) d_W_law_97 rfl ?_
        exact y_retIX d_W_law_98 rfl (by decide +kernel)
      · refine y_aload_n d_W_law_49 rfl ?_
        refine y_xI (c_st (rest := []) d_W_law_50 k_W_areShipsRight s_W_303 rfl rfl (Nat.le_of_ble_eq_true rfl) (Nat.le_trans (Nat.le_of_ble_eq_true rfl : 13 + 1 ≤ 14) hD) (S_W_areShipsRight hfl (Nat.le_refl _) h11 f1_)) (fun v14 h13 => ?_) (fun _ _ => y_hp rfl)
        refine y_if_eq (tgt := 97) d_W_law_53 (by decide) ?_ ?_
        · refine y_iconst (v := (J 0)) d_W_law_97 rfl ?_
          exact y_retIX d_W_law_98 rfl (by decide +kernel)
        · refine y_aload_n d_W_law_56 rfl ?_
          refine y_aload_n d_W_law_57 rfl ?_
          refine y_sipush (v := (J 300)) d_W_law_58 (by decide +kernel) ?_
          refine y_iload_n d_W_law_61 rfl ?_
          refine y_iadd (v := ((J 300) + v2_)) d_W_law_62 rfl ?_
          refine y_sipush (v := (J 10000)) d_W_law_63 (by decide +kernel) ?_
          refine y_cI (c_st (rest := [.ref f1_]) d_W_law_66 k_W_pick s_W_127 rfl rfl (Nat.le_of_ble_eq_true rfl) (Nat.le_trans (Nat.le_of_ble_eq_true rfl : 2 + 1 ≤ 14) hD) (S_W_pick hfl (Nat.le_refl _) h13 ((J 300) + v2_) (J 10000))) (fun v16 h15 => ?_)
          refine y_xI (c_st (rest := []) d_W_law_69 k_W_isSeaRight s_W_306 rfl rfl (Nat.le_of_ble_eq_true rfl) (Nat.le_trans (Nat.le_of_ble_eq_true rfl : 11 + 1 ≤ 14) hD) (S_W_isSeaRight hfl (Nat.le_refl _) h15 f1_ v16)) (fun v18 h17 => ?_) (fun _ _ => y_hp rfl)
          refine y_if_eq (tgt := 97) d_W_law_72 (by decide) ?_ ?_
          · refine y_iconst (v := (J 0)) d_W_law_97 rfl ?_
            exact y_retIX d_W_law_98 rfl (by decide +kernel)
          · refine y_aload_n d_W_law_75 rfl ?_
            refine y_aload_n d_W_law_76 rfl ?_
            refine y_aload_n d_W_law_77 rfl ?_
            refine y_sipush (v := (J 320)) d_W_law_78 (by decide +kernel) ?_
            refine y_iload_n d_W_law_81 rfl ?_
            refine y_iadd (v := ((J 320) + v2_)) d_W_law_82 rfl ?_
            refine y_bipush (v := (J 8)) d_W_law_83 (by decide +kernel) ?_
            refine y_cI (c_st (rest := [.ref f1_, .ref f1_]) d_W_law_85 k_W_pick s_W_127 rfl rfl (Nat.le_of_ble_eq_true rfl) (Nat.le_trans (Nat.le_of_ble_eq_true rfl : 2 + 1 ≤ 14) hD) (S_W_pick hfl (Nat.le_refl _) h17 ((J 320) + v2_) (J 8))) (fun v20 h19 => ?_)
            refine y_xI (c_st (rest := [.ref f1_]) d_W_law_88 k_W_ship s_W_138 rfl rfl (Nat.le_of_ble_eq_true rfl) (Nat.le_trans (Nat.le_of_ble_eq_true rfl : 7 + 1 ≤ 14) hD) (S_W_ship hfl (Nat.le_refl _) h19 f1_ v20)) (fun v22 h21 => ?_) (fun _ _ => y_hp rfl)
            refine y_xI (c_st (rest := []) d_W_law_91 k_W_areHoursRight s_W_310 rfl rfl (Nat.le_of_ble_eq_true rfl) (Nat.le_trans (Nat.le_of_ble_eq_true rfl : 12 + 1 ≤ 14) hD) (S_W_areHoursRight hfl (Nat.le_refl _) h21 f1_ v22)) (fun v24 h23 => ?_) (fun _ _ => y_hp rfl)
            refine y_if_ne (tgt := 99) d_W_law_94 (by decide) ?_ ?_
            · refine y_iinc (v := (v2_ + (J 1))) (loc2 := [some (.ref (mwad Θ 40)), some (.ref f1_), some (.int (v2_ + (J 1))), some (.int v8)]) d_W_law_99 rfl rfl (Nat.le_of_ble_eq_true rfl) rfl rfl ?_
              refine y_goto (tgt := 15) d_W_law_102 (by decide) ?_
              exact y_wk (loc2 := [some (.ref (mwad Θ 40)), some (.ref f1_), some (.int (v2_ + (J 1))), none]) ⟨rfl, ⟨rfl, ⟨rfl, trivial⟩⟩⟩ (ih h23 (v2_ + (J 1)))
            · refine y_iconst (v := (J 0)) d_W_law_97 rfl ?_
              exact y_retIX d_W_law_98 rfl (by decide +kernel)
theorem S_W_law_15 (hfl : HF l Θ) (hD : 14 ≤ d) {K105 : mH → Option ((Int32 ⊕ Nat) × mH)} {f1_ : Nat}  (hK105 : ∀ (h : mH), mY l Θ d M_W_law 105 [none, none, none, none] [] h (tX vI) (K105 h)) : ∀ (n : Nat) (h : mH) (v2_ : Int32), mY l Θ d M_W_law 15 [some (.ref (mwad Θ 40)), some (.ref f1_), some (.int v2_), none] [] h (tX vI) (P_W_law_15 Θ N K105 f1_ n h v2_) :=
  fun n => lp_all (C := fun (rc : mH → Int32 → Option ((Int32 ⊕ Nat) × mH)) => ∀ (h : mH) (v2_ : Int32), mY l Θ d M_W_law 15 [some (.ref (mwad Θ 40)), some (.ref f1_), some (.int v2_), none] [] h (tX vI) (rc h v2_)) (fun _ _ => y_none) (fun rc ih => SB_W_law_15 hfl hD hK105 rc ih) n
theorem S_W_law (hfl : HF l Θ) (hD : 14 ≤ d) (h : mH) : mY l Θ d M_W_law 0 [some (.ref (mwad Θ 40)), none, none, none] [] h (tX vI) (P_W_law Θ N h) := by
  unfold P_W_law
  refine y_new d_W_law_0 n_W_16 (fun q1 h2 _ _ => ?_)
  refine y_dup d_W_law_3 rfl ?_
  refine y_cU (c_in (rest := [.ref q1]) d_W_law_4 k_F_init s_W_287 rfl rfl (Nat.le_of_ble_eq_true rfl) (Nat.le_trans (Nat.le_of_ble_eq_true rfl : 5 + 1 ≤ 14) hD) (S_F_init hfl (Nat.le_refl _) h2 q1)) (fun v4 h3 => ?_)
  refine y_astore_n (loc2 := [some (.ref (mwad Θ 40)), some (.ref q1), none, none]) d_W_law_7 (Nat.le_of_ble_eq_true rfl) rfl rfl ?_
  refine y_aload_n d_W_law_8 rfl ?_
  refine y_aload_n d_W_law_9 rfl ?_
  refine y_cU (c_st (rest := []) d_W_law_10 k_W_lay s_W_288 rfl rfl (Nat.le_of_ble_eq_true rfl) (Nat.le_trans (Nat.le_of_ble_eq_true rfl : 13 + 1 ≤ 14) hD) (S_W_lay hfl (Nat.le_refl _) h3 q1)) (fun v6 h5 => ?_)
  refine y_iconst (v := (J 0)) d_W_law_13 rfl ?_
  refine y_istore_n (loc2 := [some (.ref (mwad Θ 40)), some (.ref q1), some (.int (J 0)), none]) d_W_law_14 (Nat.le_of_ble_eq_true rfl) rfl rfl ?_
  refine S_W_law_15 hfl hD (fun h25 => ?_) N h5 (J 0)
  refine y_iconst (v := (J 1)) d_W_law_105 rfl ?_
  exact y_retIX d_W_law_106 rfl (by decide +kernel)
end GP
