/-! a step of the law -/
section LX
variable {Θ : mW} {N f : Nat} {i : Int} {S : Nat → Int → Int} {h : mH} {rc : mH → Int32 → Option (Int32 × mH)}
theorem and_63 (x : Int32) : ∃ d : Int, x &&& J 63 = J d ∧ 0 ≤ d ∧ d ≤ 63 := by
  refine ⟨(x &&& J 63).toInt, J_of _, ?_⟩
  have e : (x &&& J 63).toInt = (x &&& J 63).toBitVec.toInt := rfl
  have n : (x &&& J 63).toBitVec.toNat = x.toBitVec.toNat &&& 63 := by
    show (x.toBitVec &&& (J 63).toBitVec).toNat = _
    rw [BitVec.toNat_and]
    rfl
  have le : x.toBitVec.toNat &&& 63 ≤ 63 := Nat.and_le_right
  rw [e, BitVec.toInt_eq_toNat_cond, n]
  rw [if_pos (by omega)]
  omega
theorem chr_of (x : Int32) : ∃ d : Int, (x.toUInt32 % 65536).toInt32 = J d ∧ 0 ≤ d ∧ d < 65536 := by
  refine ⟨((x.toUInt32 % 65536).toInt32).toInt, J_of _, ?_⟩
  have n : (x.toUInt32 % 65536).toNat < 65536 := by
    rw [UInt32.toNat_mod]
    exact Nat.mod_lt _ (by decide)
  have e : ((x.toUInt32 % 65536).toInt32).toInt = (x.toUInt32 % 65536).toBitVec.toInt := rfl
  have n2 : (x.toUInt32 % 65536).toBitVec.toNat = (x.toUInt32 % 65536).toNat := rfl
  rw [e, BitVec.toInt_eq_toNat_cond, n2, if_pos (by omega)]
  omega
theorem x_int (x : Int32) : ∃ y : Int, x = J y ∧ int' y := ⟨x.toInt, J_of x, Int32.le_toInt x, Int32.toInt_lt x⟩
theorem law_step (mi : mI Θ) (hN2 : 100000 ≤ N) (hk : i ≤ 1000) (i0 : 0 ≤ i) (hl : 4 * i + 4 ≤ mwL Θ) (hL : mwL Θ ≤ 2048) (ww : ZW Θ f i h S S) {K : mH → Option (Int32 × mH)} : LPz Θ f i rc (B_W_law_28 Θ N K f (f + 157) (f + 166) (f + 167) rc h (J (4 * i))) := by
  have hN : 2000 ≤ N := by omega
  have ox : ∀ d : Int, 0 ≤ d → d ≤ 3 → ∃ y : Int, oX Θ (J (4 * i + d)) = some (J y) ∧ int' y := fun d d0 d1 => by
    obtain ⟨y, e, hy⟩ := x_int (mwxs Θ (J (4 * i + d)).toNatClampNeg)
    refine ⟨y, ?_, hy⟩
    unfold oX
    rw [if_pos (by rw [J_lt0 (by omega) (by omega), J_nat (by omega) (by omega)]; omega), e]
  obtain ⟨x0, o0, -⟩ := ox 0 (by omega) (by omega)
  obtain ⟨x1, o1, y1⟩ := ox 1 (by omega) (by omega)
  obtain ⟨x2, o2, y2⟩ := ox 2 (by omega) (by omega)
  obtain ⟨x3, o3, y3⟩ := ox 3 (by omega) (by omega)
  rw [Int.add_zero] at o0
  rw [← J_add] at o1 o2 o3
  have xl : oXl Θ = some (J (mwL Θ)) := congrArg some (J_ofNat (mwL Θ))
  obtain ⟨d, hd, d0, d1⟩ := and_63 (J x0)
  have kO : ∀ {ρ : Type} {p : Option ρ}, gO Θ h 0 f p = p := fun {ρ p} => ww.1.gO
  unfold B_W_law_28
  rw [xl, bo_some, J_sub, if_neg (by rw [J_lt] <;> omega), o0, bo_some, hd]
  simp only [jn_eq]
  have ne : ∀ e : Int, 0 ≤ e → e ≤ 63 → ¬ J d = J e → d ≠ e := fun e _ _ z y => z (by rw [y])
  refine lp_ite (fun hc => ⟨h, S, rfl, ?_⟩) (fun c_ => ?_)
  · obtain ⟨w1, w2, w3, w4, w5⟩ := ww
    refine ⟨w1.mono (by omega), w2, w3, ?_, ?_⟩
    · unfold WN at w4 ⊢
      omega
    · unfold WZ at w5 ⊢
      omega
  rw [J_toInt (by omega) (by omega)] at c_
  refine lp_ite (fun _ => ?_) (fun c0 => ?_)
  · simp only [o1, o2, o3, bo_some]
    exact br_L (OPc.to (o_add (N := N) y1 y2 y3 hN hk ww)) kO rfl (by intro T t1 t2 t3 h3; have t4 : T = 1 ∨ T = 2 ∨ T = 3 ∨ T = 4 := (by omega); rcases t4 with rfl | rfl | rfl | rfl <;> first | rfl | exact (t3 rfl).elim)
  refine lp_ite (fun _ => ?_) (fun c1 => ?_)
  · simp only [o1, o2, o3, bo_some]
    exact br_L (OPc.to (o_rmv (N := N) y1 hN hk ww)) kO rfl (by intro T t1 t2 t3 h3; have t4 : T = 1 ∨ T = 2 ∨ T = 3 ∨ T = 4 := (by omega); rcases t4 with rfl | rfl | rfl | rfl <;> first | rfl | exact (t3 rfl).elim)
  refine lp_ite (fun _ => ?_) (fun c2 => ?_)
  · simp only [o1, o2, o3, bo_some]
    exact br_L (OPc.to (o_ent (N := N) y1 y2 hN hk ww)) kO rfl (by intro T t1 t2 t3 h3; have t4 : T = 1 ∨ T = 2 ∨ T = 3 ∨ T = 4 := (by omega); rcases t4 with rfl | rfl | rfl | rfl <;> first | rfl | exact (t3 rfl).elim)
  refine lp_ite (fun _ => ?_) (fun c3 => ?_)
  · simp only [o1, o2, o3, bo_some]
    exact br_L (OPc.to (o_lea (N := N) y1 hN hk ww)) kO rfl (by intro T t1 t2 t3 h3; have t4 : T = 1 ∨ T = 2 ∨ T = 3 ∨ T = 4 := (by omega); rcases t4 with rfl | rfl | rfl | rfl <;> first | rfl | exact (t3 rfl).elim)
  refine lp_ite (fun _ => ?_) (fun c4 => ?_)
  · simp only [o1, o2, bo_some]
    refine lp_ite (fun hc => ?_) (fun hc => ?_)
    · simp only [if_pos hc]
      exact br_B (OPc.to (o_cle (N := N) y1 (x := 0) (Or.inl rfl) hN hk ww)) kO rfl (by intro T t1 t2 t3 h3; have t4 : T = 1 ∨ T = 2 ∨ T = 3 ∨ T = 4 := (by omega); rcases t4 with rfl | rfl | rfl | rfl <;> first | rfl | exact (t3 rfl).elim)
    · simp only [if_neg hc]
      exact br_B (OPc.to (o_cle (N := N) y1 (x := 1) (Or.inr rfl) hN hk ww)) kO rfl (by intro T t1 t2 t3 h3; have t4 : T = 1 ∨ T = 2 ∨ T = 3 ∨ T = 4 := (by omega); rcases t4 with rfl | rfl | rfl | rfl <;> first | rfl | exact (t3 rfl).elim)
  refine lp_ite (fun _ => ?_) (fun c5 => ?_)
  · exact br_N (o_shipCount (N := N) ww) kO
  refine lp_ite (fun _ => ?_) (fun c6 => ?_)
  · simp only [o1, o2, o3, bo_some]
    exact br_L (o_shipAt (N := N) y1 ww) kO rfl (by intro T t1 t2 t3 h3; have t4 : T = 1 ∨ T = 2 ∨ T = 3 ∨ T = 4 := (by omega); rcases t4 with rfl | rfl | rfl | rfl <;> first | rfl | exact (t3 rfl).elim)
  refine lp_ite (fun _ => ?_) (fun c7 => ?_)
  · simp only [o1, o2, o3, bo_some]
    exact br_B (o_isInDock (N := N) y1 hN ww) kO rfl (by intro T t1 t2 t3 h3; have t4 : T = 1 ∨ T = 2 ∨ T = 3 ∨ T = 4 := (by omega); rcases t4 with rfl | rfl | rfl | rfl <;> first | rfl | exact (t3 rfl).elim)
  refine lp_ite (fun _ => ?_) (fun c8 => ?_)
  · simp only [o1, o2, o3, bo_some]
    exact br_L (o_positionOf (N := N) y1 hN ww) kO rfl (by intro T t1 t2 t3 h3; have t4 : T = 1 ∨ T = 2 ∨ T = 3 ∨ T = 4 := (by omega); rcases t4 with rfl | rfl | rfl | rfl <;> first | rfl | exact (t3 rfl).elim)
  refine lp_ite (fun _ => ?_) (fun c9 => ?_)
  · simp only [o1, o2, o3, bo_some]
    exact br_L (o_dirtOf (N := N) y1 hN ww) kO rfl (by intro T t1 t2 t3 h3; have t4 : T = 1 ∨ T = 2 ∨ T = 3 ∨ T = 4 := (by omega); rcases t4 with rfl | rfl | rfl | rfl <;> first | rfl | exact (t3 rfl).elim)
  refine lp_ite (fun _ => ?_) (fun c10 => ?_)
  · simp only [o1, o2, o3, bo_some]
    exact br_L (o_damageOf (N := N) y1 hN ww) kO rfl (by intro T t1 t2 t3 h3; have t4 : T = 1 ∨ T = 2 ∨ T = 3 ∨ T = 4 := (by omega); rcases t4 with rfl | rfl | rfl | rfl <;> first | rfl | exact (t3 rfl).elim)
  refine lp_ite (fun _ => ?_) (fun c11 => ?_)
  · simp only [o1, o2, o3, bo_some]
    exact br_L (o_hoursAfloat (N := N) y1 hN ww) kO rfl (by intro T t1 t2 t3 h3; have t4 : T = 1 ∨ T = 2 ∨ T = 3 ∨ T = 4 := (by omega); rcases t4 with rfl | rfl | rfl | rfl <;> first | rfl | exact (t3 rfl).elim)
  refine lp_ite (fun _ => ?_) (fun c12 => ?_)
  · simp only [o1, o2, o3, bo_some]
    exact br_B (o_isAfloat (N := N) y1 hN ww) kO rfl (by intro T t1 t2 t3 h3; have t4 : T = 1 ∨ T = 2 ∨ T = 3 ∨ T = 4 := (by omega); rcases t4 with rfl | rfl | rfl | rfl <;> first | rfl | exact (t3 rfl).elim)
  refine lp_ite (fun _ => ?_) (fun c13 => ?_)
  · skip
    exact br_L (o_refusal (N := N) ww) kO rfl (by intro T t1 t2 t3 h3; have t4 : T = 1 ∨ T = 2 ∨ T = 3 ∨ T = 4 := (by omega); rcases t4 with rfl | rfl | rfl | rfl <;> first | rfl | exact (t3 rfl).elim)
  refine lp_ite (fun _ => ?_) (fun c14 => ?_)
  · simp only [o1, bo_some]
    refine lp_ite (fun hc => ?_) (fun hc => ?_)
    · simp only [if_pos hc]
      exact br_B (OPc.to (o_gat (N := N) (x := 0) (Or.inl rfl) hN hk ww)) kO rfl (by intro T t1 t2 t3 h3; have t4 : T = 1 ∨ T = 2 ∨ T = 3 ∨ T = 4 := (by omega); rcases t4 with rfl | rfl | rfl | rfl <;> first | rfl | exact (t3 rfl).elim)
    · simp only [if_neg hc]
      exact br_B (OPc.to (o_gat (N := N) (x := 1) (Or.inr rfl) hN hk ww)) kO rfl (by intro T t1 t2 t3 h3; have t4 : T = 1 ∨ T = 2 ∨ T = 3 ∨ T = 4 := (by omega); rcases t4 with rfl | rfl | rfl | rfl <;> first | rfl | exact (t3 rfl).elim)
  refine lp_ite (fun _ => ?_) (fun c15 => ?_)
  · exact br_N (o_isGateOpen (N := N) ww) kO
  refine lp_ite (fun _ => ?_) (fun c16 => ?_)
  · simp only [o1, o2, o3, bo_some]
    exact br_L (OPc.to (o_pum (N := N) y1 hN hk ww)) kO rfl (by intro T t1 t2 t3 h3; have t4 : T = 1 ∨ T = 2 ∨ T = 3 ∨ T = 4 := (by omega); rcases t4 with rfl | rfl | rfl | rfl <;> first | rfl | exact (t3 rfl).elim)
  refine lp_ite (fun _ => ?_) (fun c17 => ?_)
  · exact br_N (o_level (N := N) ww) kO
  refine lp_ite (fun _ => ?_) (fun c18 => ?_)
  · simp only [o1, o2, o3, bo_some]
    exact br_L (o_seaLevel (N := N) y1 ww) kO rfl (by intro T t1 t2 t3 h3; have t4 : T = 1 ∨ T = 2 ∨ T = 3 ∨ T = 4 := (by omega); rcases t4 with rfl | rfl | rfl | rfl <;> first | rfl | exact (t3 rfl).elim)
  refine lp_ite (fun _ => ?_) (fun c19 => ?_)
  · simp only [o1, o2, o3, bo_some]
    exact br_L (o_seaByHours (N := N) y1 hN2 ww) kO rfl (by intro T t1 t2 t3 h3; have t4 : T = 1 ∨ T = 2 ∨ T = 3 ∨ T = 4 := (by omega); rcases t4 with rfl | rfl | rfl | rfl <;> first | rfl | exact (t3 rfl).elim)
  refine lp_ite (fun _ => ?_) (fun c20 => ?_)
  · simp only [o1, o2, o3, bo_some]
    exact br_L (OPc.to (o_pas (N := N) y1 hN hk ww)) kO rfl (by intro T t1 t2 t3 h3; have t4 : T = 1 ∨ T = 2 ∨ T = 3 ∨ T = 4 := (by omega); rcases t4 with rfl | rfl | rfl | rfl <;> first | rfl | exact (t3 rfl).elim)
  refine lp_ite (fun _ => ?_) (fun c21 => ?_)
  · exact br_N (o_hour (N := N) ww) kO
  refine lp_ite (fun _ => ?_) (fun c22 => ?_)
  · simp only [o1, o2, o3, bo_some]
    exact br_L (o_levelAfter (N := N) y1 hN hk ww) kO rfl (by intro T t1 t2 t3 h3; have t4 : T = 1 ∨ T = 2 ∨ T = 3 ∨ T = 4 := (by omega); rcases t4 with rfl | rfl | rfl | rfl <;> first | rfl | exact (t3 rfl).elim)
  refine lp_ite (fun _ => ?_) (fun c23 => ?_)
  · simp only [o1, o2, o3, bo_some]
    exact br_L (o_hoursUntil (N := N) y1 hN hk ww) kO rfl (by intro T t1 t2 t3 h3; have t4 : T = 1 ∨ T = 2 ∨ T = 3 ∨ T = 4 := (by omega); rcases t4 with rfl | rfl | rfl | rfl <;> first | rfl | exact (t3 rfl).elim)
  refine lp_ite (fun _ => ?_) (fun c24 => ?_)
  · simp only [o1, o2, o3, bo_some]
    exact br_L (OPc.to (o_plb (N := N) y1 hN hk ww)) kO rfl (by intro T t1 t2 t3 h3; have t4 : T = 1 ∨ T = 2 ∨ T = 3 ∨ T = 4 := (by omega); rcases t4 with rfl | rfl | rfl | rfl <;> first | rfl | exact (t3 rfl).elim)
  refine lp_ite (fun _ => ?_) (fun c25 => ?_)
  · simp only [o1, o2, o3, bo_some]
    exact br_L (OPc.to (o_rmb (N := N) y1 hN hk ww)) kO rfl (by intro T t1 t2 t3 h3; have t4 : T = 1 ∨ T = 2 ∨ T = 3 ∨ T = 4 := (by omega); rcases t4 with rfl | rfl | rfl | rfl <;> first | rfl | exact (t3 rfl).elim)
  refine lp_ite (fun _ => ?_) (fun c26 => ?_)
  · simp only [o1, o2, o3, bo_some]
    exact br_B (o_hasBlock (N := N) y1 hN ww) kO rfl (by intro T t1 t2 t3 h3; have t4 : T = 1 ∨ T = 2 ∨ T = 3 ∨ T = 4 := (by omega); rcases t4 with rfl | rfl | rfl | rfl <;> first | rfl | exact (t3 rfl).elim)
  refine lp_ite (fun _ => ?_) (fun c27 => ?_)
  · simp only [o1, o2, o3, bo_some]
    exact br_L (o_beneath (N := N) y1 hN ww) kO rfl (by intro T t1 t2 t3 h3; have t4 : T = 1 ∨ T = 2 ∨ T = 3 ∨ T = 4 := (by omega); rcases t4 with rfl | rfl | rfl | rfl <;> first | rfl | exact (t3 rfl).elim)
  refine lp_ite (fun _ => ?_) (fun c28 => ?_)
  · simp only [o1, o2, o3, bo_some]
    exact br_L (o_beneathB (N := N) y1 hN ww) kO rfl (by intro T t1 t2 t3 h3; have t4 : T = 1 ∨ T = 2 ∨ T = 3 ∨ T = 4 := (by omega); rcases t4 with rfl | rfl | rfl | rfl <;> first | rfl | exact (t3 rfl).elim)
  refine lp_ite (fun _ => ?_) (fun c29 => ?_)
  · simp only [o1, o2, o3, bo_some]
    exact br_L (o_shipAtPos (N := N) y1 hN ww) kO rfl (by intro T t1 t2 t3 h3; have t4 : T = 1 ∨ T = 2 ∨ T = 3 ∨ T = 4 := (by omega); rcases t4 with rfl | rfl | rfl | rfl <;> first | rfl | exact (t3 rfl).elim)
  refine lp_ite (fun _ => ?_) (fun c30 => ?_)
  · simp only [o1, o2, o3, bo_some]
    exact br_L (o_gap1 (N := N) y1 hN ww) kO rfl (by intro T t1 t2 t3 h3; have t4 : T = 1 ∨ T = 2 ∨ T = 3 ∨ T = 4 := (by omega); rcases t4 with rfl | rfl | rfl | rfl <;> first | rfl | exact (t3 rfl).elim)
  refine lp_ite (fun _ => ?_) (fun c31 => ?_)
  · simp only [o1, o2, o3, bo_some]
    exact br_L (o_gap2 (N := N) y1 hN ww) kO rfl (by intro T t1 t2 t3 h3; have t4 : T = 1 ∨ T = 2 ∨ T = 3 ∨ T = 4 := (by omega); rcases t4 with rfl | rfl | rfl | rfl <;> first | rfl | exact (t3 rfl).elim)
  refine lp_ite (fun _ => ?_) (fun c32 => ?_)
  · exact br_N (o_freeMetres (N := N) hN ww) kO
  refine lp_ite (fun _ => ?_) (fun c33 => ?_)
  · exact br_N (o_fit1 (N := N) hN ww) kO
  refine lp_ite (fun _ => ?_) (fun c34 => ?_)
  · exact br_N (o_fit2 (N := N) hN ww) kO
  refine lp_ite (fun _ => ?_) (fun c35 => ?_)
  · exact br_N (o_fit3 (N := N) hN ww) kO
  refine lp_ite (fun _ => ?_) (fun c36 => ?_)
  · simp only [o1, o2, o3, bo_some]
    exact br_L (o_billOf (N := N) y1 hN ww) kO rfl (by intro T t1 t2 t3 h3; have t4 : T = 1 ∨ T = 2 ∨ T = 3 ∨ T = 4 := (by omega); rcases t4 with rfl | rfl | rfl | rfl <;> first | rfl | exact (t3 rfl).elim)
  refine lp_ite (fun _ => ?_) (fun c37 => ?_)
  · simp only [o1, o2, o3, bo_some]
    exact br_L (OPc.to (o_pay (N := N) y1 y2 hN hk ww)) kO rfl (by intro T t1 t2 t3 h3; have t4 : T = 1 ∨ T = 2 ∨ T = 3 ∨ T = 4 := (by omega); rcases t4 with rfl | rfl | rfl | rfl <;> first | rfl | exact (t3 rfl).elim)
  refine lp_ite (fun _ => ?_) (fun c38 => ?_)
  · exact br_N (o_billTotal (N := N) hN ww) kO
  refine lp_ite (fun _ => ?_) (fun c39 => ?_)
  · exact br_N (o_billByAcc (N := N) ww) kO
  refine lp_ite (fun _ => ?_) (fun c40 => ?_)
  · exact br_N (o_paidTotal (N := N) ww) kO
  refine lp_ite (fun _ => ?_) (fun c41 => ?_)
  · simp only [o1, o2, o3, bo_some]
    exact br_L (o_shipAtRank (N := N) y1 hN ww) kO rfl (by intro T t1 t2 t3 h3; have t4 : T = 1 ∨ T = 2 ∨ T = 3 ∨ T = 4 := (by omega); rcases t4 with rfl | rfl | rfl | rfl <;> first | rfl | exact (t3 rfl).elim)
  refine lp_ite (fun _ => ?_) (fun c42 => ?_)
  · simp only [o1, bo_some]
    obtain ⟨a, ea, a0, a1⟩ := chr_of (J x1)
    rw [ea]
    exact br_L (o_append (N := N) a0 a1 ww) kO rfl (by intro T t1 t2 t3 h3; have t4 : T = 1 ∨ T = 2 ∨ T = 3 ∨ T = 4 := (by omega); rcases t4 with rfl | rfl | rfl | rfl <;> first | rfl | exact (t3 rfl).elim)
  refine lp_ite (fun _ => ?_) (fun c43 => ?_)
  · skip
    exact br_L (o_run (N := N) mi hN hk ww) kO rfl (by intro T t1 t2 t3 h3; have t4 : T = 1 ∨ T = 2 ∨ T = 3 ∨ T = 4 := (by omega); rcases t4 with rfl | rfl | rfl | rfl <;> first | rfl | exact (t3 rfl).elim)
  refine lp_ite (fun _ => ?_) (fun c44 => ?_)
  · skip
    exact br_L (o_errorPos (N := N) ww) kO rfl (by intro T t1 t2 t3 h3; have t4 : T = 1 ∨ T = 2 ∨ T = 3 ∨ T = 4 := (by omega); rcases t4 with rfl | rfl | rfl | rfl <;> first | rfl | exact (t3 rfl).elim)
  refine lp_ite (fun _ => ?_) (fun c45 => ?_)
  · skip
    exact br_L (o_failedCom (N := N) ww) kO rfl (by intro T t1 t2 t3 h3; have t4 : T = 1 ∨ T = 2 ∨ T = 3 ∨ T = 4 := (by omega); rcases t4 with rfl | rfl | rfl | rfl <;> first | rfl | exact (t3 rfl).elim)
  refine lp_ite (fun _ => ?_) (fun c46 => ?_)
  · exact br_N (o_dock (N := N) hN hk ww) kO
  refine lp_ite (fun _ => ?_) (fun c47 => ?_)
  · simp only [o1, o2, o3, bo_some]
    exact br_L (o_bill (N := N) y1 hN hk ww) kO rfl (by intro T t1 t2 t3 h3; have t4 : T = 1 ∨ T = 2 ∨ T = 3 ∨ T = 4 := (by omega); rcases t4 with rfl | rfl | rfl | rfl <;> first | rfl | exact (t3 rfl).elim)
  refine lp_ite (fun _ => ?_) (fun c48 => ?_)
  · simp only [o1, o2, o3, bo_some]
    exact br_L (o_lineAt (N := N) y1 ww) kO rfl (by intro T t1 t2 t3 h3; have t4 : T = 1 ∨ T = 2 ∨ T = 3 ∨ T = 4 := (by omega); rcases t4 with rfl | rfl | rfl | rfl <;> first | rfl | exact (t3 rfl).elim)
  refine lp_ite (fun _ => ?_) (fun c49 => ?_)
  · exact br_D (o_mean (N := N) hN ww) kO rfl
  refine lp_ite (fun _ => ?_) (fun c50 => ?_)
  · exact br_F (o_share (N := N) hN ww) kO
  refine lp_ite (fun _ => ?_) (fun c51 => ?_)
  · exact br_N (o_cons (N := N) hN2 hk ww) kO
  refine lp_ite (fun _ => ?_) (fun c52 => ?_)
  · skip
    exact br_L (o_undo (N := N) hN ww) kO rfl (by intro T t1 t2 t3 h3; have t4 : T = 1 ∨ T = 2 ∨ T = 3 ∨ T = 4 := (by omega); rcases t4 with rfl | rfl | rfl | rfl <;> first | rfl | exact (t3 rfl).elim)
  refine lp_ite (fun _ => ?_) (fun c53 => ?_)
  · exact br_N (o_save (N := N) hN ww) kO
  refine lp_ite (fun _ => ?_) (fun c54 => ?_)
  · skip
    exact br_L (o_restore (N := N) hN ww) kO rfl (by intro T t1 t2 t3 h3; have t4 : T = 1 ∨ T = 2 ∨ T = 3 ∨ T = 4 := (by omega); rcases t4 with rfl | rfl | rfl | rfl <;> first | rfl | exact (t3 rfl).elim)
  exfalso
  have e0 := ne 0 (by omega) (by omega) c0
  have e1 := ne 1 (by omega) (by omega) c1
  have e2 := ne 2 (by omega) (by omega) c2
  have e3 := ne 3 (by omega) (by omega) c3
  have e4 := ne 4 (by omega) (by omega) c4
  have e5 := ne 5 (by omega) (by omega) c5
  have e6 := ne 6 (by omega) (by omega) c6
  have e7 := ne 7 (by omega) (by omega) c7
  have e8 := ne 8 (by omega) (by omega) c8
  have e9 := ne 9 (by omega) (by omega) c9
  have e10 := ne 10 (by omega) (by omega) c10
  have e11 := ne 11 (by omega) (by omega) c11
  have e12 := ne 12 (by omega) (by omega) c12
  have e13 := ne 13 (by omega) (by omega) c13
  have e14 := ne 14 (by omega) (by omega) c14
  have e15 := ne 15 (by omega) (by omega) c15
  have e16 := ne 16 (by omega) (by omega) c16
  have e17 := ne 17 (by omega) (by omega) c17
  have e18 := ne 18 (by omega) (by omega) c18
  have e19 := ne 19 (by omega) (by omega) c19
  have e20 := ne 20 (by omega) (by omega) c20
  have e21 := ne 21 (by omega) (by omega) c21
  have e22 := ne 22 (by omega) (by omega) c22
  have e23 := ne 23 (by omega) (by omega) c23
  have e24 := ne 24 (by omega) (by omega) c24
  have e25 := ne 25 (by omega) (by omega) c25
  have e26 := ne 26 (by omega) (by omega) c26
  have e27 := ne 27 (by omega) (by omega) c27
  have e28 := ne 28 (by omega) (by omega) c28
  have e29 := ne 29 (by omega) (by omega) c29
  have e30 := ne 30 (by omega) (by omega) c30
  have e31 := ne 31 (by omega) (by omega) c31
  have e32 := ne 32 (by omega) (by omega) c32
  have e33 := ne 33 (by omega) (by omega) c33
  have e34 := ne 34 (by omega) (by omega) c34
  have e35 := ne 35 (by omega) (by omega) c35
  have e36 := ne 36 (by omega) (by omega) c36
  have e37 := ne 37 (by omega) (by omega) c37
  have e38 := ne 38 (by omega) (by omega) c38
  have e39 := ne 39 (by omega) (by omega) c39
  have e40 := ne 40 (by omega) (by omega) c40
  have e41 := ne 41 (by omega) (by omega) c41
  have e42 := ne 42 (by omega) (by omega) c42
  have e43 := ne 43 (by omega) (by omega) c43
  have e44 := ne 44 (by omega) (by omega) c44
  have e45 := ne 45 (by omega) (by omega) c45
  have e46 := ne 46 (by omega) (by omega) c46
  have e47 := ne 47 (by omega) (by omega) c47
  have e48 := ne 48 (by omega) (by omega) c48
  have e49 := ne 49 (by omega) (by omega) c49
  have e50 := ne 50 (by omega) (by omega) c50
  have e51 := ne 51 (by omega) (by omega) c51
  have e52 := ne 52 (by omega) (by omega) c52
  have e53 := ne 53 (by omega) (by omega) c53
  have e54 := ne 54 (by omega) (by omega) c54
  omega
end LX
