/-! the class's other changes, on -/
section C6
variable {Θ : mW} {N b : Nat} {D : Nat → Int → Int} {V : Int → Int} {h : mH} {G H M : Int}
theorem fnd_lt (I : Inv G H M V) {id : Int} (h : fnd V id (mny V) ≠ -1) : 0 ≤ fnd V id (mny V) ∧ fnd V id (mny V) < V 4 := by
  have h4 := I.h4
  have := fnd_le (V := V) (id := id) (mny V)
  unfold mny at *
  omega
theorem c_strike (hN : 2000 ≤ N) (hb : bOK Θ 13 b h) (hd : DV D V) (I : Inv G H M V) {id : Int} (i1 : -2147483648 ≤ id) (i2 : id < 2147483648) : if fnd V id (mny V) = -1 then P_L_strike Θ N (HD Θ b D h) (b + 1) (J id) = some (.inr 10, HD Θ b D (h ++ [oB 10 []])) else if ¬ (fd V (fnd V id (mny V)) 4 = -1 ∧ fd V (fnd V id (mny V)) 8 = 0) then P_L_strike Θ N (HD Θ b D h) (b + 1) (J id) = some (.inr 12, HD Θ b D (h ++ [oB 12 []])) else ∃ D', P_L_strike Θ N (HD Θ b D h) (b + 1) (J id) = some (.inl (J (fd V (fnd V id (mny V)) 3)), HD Θ b D' h) ∧ DV D' (rmvV V (fnd V id (mny V))) := by
  have hw := fun c => fnd_lt (V := V) (id := id) I c
  have ek := c_known (Θ := Θ) (N := N) (b := b) (h := h) hN hb hd I i1 i2
  unfold P_L_strike
  rw [l_O hb, ek]
  generalize fnd V id (mny V) = w at hw ⊢
  have h4 := I.h4
  by_cases c : w = -1
  · rw [if_pos c, if_pos c, bx_inr]
    rfl
  · obtain ⟨w1, w2⟩ := hw c
    have hr := hd.rlt w1 (by omega)
    have b4 := I.ok.fd w 4
    have b8 := I.ok.fd w 8
    rw [if_neg c, if_neg c, bx_inl, v_O hb hd w1 (by omega), c_isDocked hb hd I w1 w2, bc_some]
    by_cases c2 : fd V w 4 = -1
    · have c2' : ¬ (fd V w 4 ≠ -1) := by simpa using c2
      rw [if_neg c2', if_pos (show J 0 = (0 : Int32) from rfl), v_I8 hb hd w1 w2 (by omega), bo_some]
      by_cases c3 : fd V w 8 = 0
      · rw [if_neg (by simp [c2, c3]), if_pos (by rw [c3]; rfl)]
        refine ⟨_, ?_, hd.rmv I w1 w2⟩
        have e11 : mvr D w (V 4 - 1) 1 1 = V 4 := by rw [mvr_o (by omega)]; exact hd.sc.2.2.2.2.1
        rw [l_O hb, c_move hN hb hd I w1 w2, bc_some, l_I1 hb, bo_some, e11, J_sub, l_W1 hb, bo_some, s_I3 hb hr, bo_some, up2_ne (by omega), mvr_o (by omega), hd.f3 w1 w2]
      · rw [if_pos (by simp [c2, c3]), if_neg (by rw [J_0, J_eq] <;> omega), xp, BK_app hb]
    · rw [if_pos c2, if_neg (show ¬ J 1 = (0 : Int32) by rw [J_0, J_eq] <;> omega), if_pos (by simp [c2]), xp, BK_app hb]
theorem mny_plc {w p : Int} (h1 : 0 ≤ w) : mny (plcV V w p) = mny V := by
  unfold mny
  rw [plcV_lo h1 (by omega)]
theorem c_moor (hN : 2000 ≤ N) (hb : bOK Θ 13 b h) (hd : DV D V) (I : Inv G H M V) {id p : Int} (i1 : -2147483648 ≤ id) (i2 : id < 2147483648) (c : fnd V id (mny V) ≠ -1) (I2 : Inv G H M (plcV V (fnd V id (mny V)) p)) : ∃ D', P_D_moor Θ N (HD Θ b D h) b (J id) (J p) = some (.inl (J (dct (plcV V (fnd V id (mny V)) p) (mny V))), HD Θ b D' h) ∧ DV D' (plcV V (fnd V id (mny V)) p) := by
  obtain ⟨w1, w2⟩ := fnd_lt I c
  have h4 := I.h4
  obtain ⟨D', e, d, r⟩ := c_moveTo (N := N) (p := p) hb hd I w1 w2
  refine ⟨D', ?_, d⟩
  unfold P_D_moor
  have em : mny (plcV V (fnd V id (mny V)) p) = mny V := mny_plc w1
  have ec := c_dockedCount (Θ := Θ) (b := b) (h := h) hN hb d I2
  rw [em] at ec
  rw [d_A0 hb, bo_some, l_O hb, c_known hN hb hd I i1 i2, if_neg c, bx_inl, v_O hb hd w1 (by omega), e, bc_some, d_A0 hb, bo_some, l_O hb, ec, bc_some]
theorem c_castOff (hN : 2000 ≤ N) (hb : bOK Θ 13 b h) (hd : DV D V) (I : Inv G H M V) {id : Int} (i1 : -2147483648 ≤ id) (i2 : id < 2147483648) (c : fnd V id (mny V) ≠ -1) (I2 : Inv G H M (plcV V (fnd V id (mny V)) (-1))) : ∃ D', P_D_castOff Θ N (HD Θ b D h) b (J id) = some (.inl (J (dct (plcV V (fnd V id (mny V)) (-1)) (mny V))), HD Θ b D' h) ∧ DV D' (plcV V (fnd V id (mny V)) (-1)) := by
  obtain ⟨w1, w2⟩ := fnd_lt I c
  have h4 := I.h4
  obtain ⟨D', e, d, r⟩ := c_moveTo (N := N) (p := -1) hb hd I w1 w2
  refine ⟨D', ?_, d⟩
  unfold P_D_castOff
  have em : mny (plcV V (fnd V id (mny V)) (-1)) = mny V := mny_plc w1
  have ec := c_dockedCount (Θ := Θ) (b := b) (h := h) hN hb d I2
  rw [em] at ec
  rw [d_A0 hb, bo_some, l_O hb, c_known hN hb hd I i1 i2, if_neg c, bx_inl, v_O hb hd w1 (by omega), e, bc_some, d_A0 hb, bo_some, l_O hb, ec, bc_some]
theorem c_canEnter (hb : bOK Θ 13 b h) (hd : DV D V) (I : Inv G H M V) {k : Int} (h1 : 0 ≤ k) (h2 : k < V 4) : P_D_canEnterNow Θ N (HD Θ b D h) b (b + 3 + ro D k) = some (J (if fd V k 2 + 2 ≤ V 1 then 1 else 0), HD Θ b D h) := by
  unfold P_D_canEnterNow
  have h4 := I.h4
  have v1 := I.h1
  have b2 := I.ok.fd k 2
  rw [v_S1 hb hd, bo_some, v_I2 hb hd h1 h2 (by omega), bo_some, J_add]
  by_cases c : fd V k 2 + 2 ≤ V 1
  · rw [if_neg (by rw [J_lt] <;> omega), if_pos c]
  · rw [if_pos (by rw [J_lt] <;> omega), if_neg c]
theorem c_isWaiting (hb : bOK Θ 13 b h) (hd : DV D V) (I : Inv G H M V) {k : Int} (h1 : 0 ≤ k) (h2 : k < V 4) : P_D_isWaiting Θ N (HD Θ b D h) b (b + 3 + ro D k) = some (J (if fd V k 4 = -1 ∧ fd V k 2 + 2 ≤ V 1 then 1 else 0), HD Θ b D h) := by
  unfold P_D_isWaiting
  have h4 := I.h4
  rw [v_O hb hd h1 (by omega), c_isDocked hb hd I h1 h2, bc_some]
  by_cases c : fd V k 4 = -1
  · rw [if_neg (show ¬ (fd V k 4 ≠ -1) by simpa using c), if_pos (show J 0 = (0 : Int32) from rfl), d_O1 hb, c_canEnter hb hd I h1 h2, bc_some]
    by_cases c2 : fd V k 2 + 2 ≤ V 1
    · rw [if_pos c2, if_neg (show ¬ J 1 = (0 : Int32) by rw [J_0, J_eq] <;> omega), if_pos ⟨c, c2⟩]
    · rw [if_neg c2, if_pos (show J 0 = (0 : Int32) from rfl), if_neg (fun x => c2 x.2)]
  · rw [if_pos c, if_neg (show ¬ J 1 = (0 : Int32) by rw [J_0, J_eq] <;> omega), if_neg (fun x => c x.1)]
theorem c_entry (hN : 2000 ≤ N) (hb : bOK Θ 13 b h) (hd : DV D V) (I : Inv G H M V) {id p : Int} (i1 : -2147483648 ≤ id) (i2 : id < 2147483648) (i3 : -2147483648 ≤ p) (i4 : p < 2147483648) : P_D_entryRefusal Θ N (HD Θ b D h) b (J id) (J p) = if fnd V id (mny V) = -1 then some (.inr 10, HD Θ b D (h ++ [oB 10 []])) else if ¬ ((0 ≤ p ∧ p ≤ 59) ∧ p ≤ 60 - fd V (fnd V id (mny V)) 1) then some (.inr 11, HD Θ b D (h ++ [oB 11 []])) else if ¬ (fd V (fnd V id (mny V)) 4 = -1 ∧ V 2 = 1) then some (.inr 12, HD Θ b D (h ++ [oB 12 []])) else if V 1 < fd V (fnd V id (mny V)) 2 + 2 then some (.inl (J 1), HD Θ b D h) else if ¬ fre V p (fd V (fnd V id (mny V)) 1).toNat = 1 then some (.inl (J 2), HD Θ b D h) else some (.inl (J 0), HD Θ b D h) := by
  have hw := fun c => fnd_lt (V := V) (id := id) I c
  have ek := c_known (Θ := Θ) (N := N) (b := b) (h := h) hN hb hd I i1 i2
  unfold P_D_entryRefusal
  rw [d_A0 hb, bo_some, l_O hb, ek]
  generalize fnd V id (mny V) = w at hw ⊢
  have h4 := I.h4
  have v1 := I.h1
  have v2 := I.h2
  by_cases c : w = -1
  · rw [if_pos c, if_pos c, bx_inr]
    rfl
  · obtain ⟨w1, w2⟩ := hw c
    have s := I.sh w w1 w2
    unfold shOK at s
    rw [if_neg c, if_neg c, bx_inl]
    by_cases c1 : (0 ≤ p ∧ p ≤ 59) ∧ p ≤ 60 - fd V w 1
    · rw [if_neg (show ¬ ¬ _ from fun x => x c1), if_neg (by rw [J_0, J_lt] <;> omega), v_I1 hb hd w1 w2 (by omega), bo_some, J_sub, if_pos (by rw [J_le] <;> omega), v_O hb hd w1 (by omega), c_isDocked hb hd I w1 w2, bc_some]
      by_cases c2 : fd V w 4 = -1
      · rw [if_neg (show ¬ (fd V w 4 ≠ -1) by simpa using c2), if_pos (show J 0 = (0 : Int32) from rfl), v_S2 hb hd, bo_some]
        by_cases c3 : V 2 = 1
        · rw [if_neg (by rw [c3, J_0, J_eq] <;> omega), if_neg (show ¬ ¬ _ from fun x => x ⟨c2, c3⟩), d_O1 hb, c_canEnter hb hd I w1 w2, bc_some]
          by_cases c5 : V 1 < fd V w 2 + 2
          · rw [if_neg (show ¬ fd V w 2 + 2 ≤ V 1 by omega), if_pos (show J 0 = (0 : Int32) from rfl), if_pos c5]
          · rw [if_pos (show fd V w 2 + 2 ≤ V 1 by omega), if_neg (show ¬ J 1 = (0 : Int32) by rw [J_0, J_eq] <;> omega), if_neg c5, d_A0 hb, bo_some, v_I1 hb hd w1 w2 (by omega), bo_some, l_O hb, c_overlapping hN hb hd I (by omega) (by omega) (by omega) (by omega)]
            have f := ovf_fre (V := V) I (a := p) (l := fd V w 1) (by omega)
            by_cases c6 : ovf V p (fd V w 1) (mny V) 0 = -1
            · rw [if_pos c6, bn_none, if_neg (show ¬ ¬ _ from fun x => x (f.mp c6))]
            · rw [if_neg c6, bn_some, if_pos (fun x => c6 (f.mpr x))]
        · rw [if_pos (by rw [show V 2 = 0 by omega]; rfl), if_pos (fun x => c3 x.2), xp, BK_app hb]
      · rw [if_pos c2, if_neg (show ¬ J 1 = (0 : Int32) by rw [J_0, J_eq] <;> omega), if_pos (fun x => c2 x.1), xp, BK_app hb]
    · rw [if_pos c1]
      by_cases c9 : p < 0
      · rw [if_pos (by rw [J_0, J_lt] <;> omega), xp, BK_app hb]
      · rw [if_neg (by rw [J_0, J_lt] <;> omega), v_I1 hb hd w1 w2 (by omega), bo_some, J_sub, if_neg (by rw [J_le] <;> omega), xp, BK_app hb]
theorem c_dockedOne (hN : 2000 ≤ N) (hb : bOK Θ 13 b h) (hd : DV D V) (I : Inv G H M V) {id : Int} (i1 : -2147483648 ≤ id) (i2 : id < 2147483648) : P_L_docked Θ N (HD Θ b D h) (b + 1) (J id) = if fnd V id (mny V) = -1 then some (.inr 10, HD Θ b D (h ++ [oB 10 []])) else if fd V (fnd V id (mny V)) 4 = -1 then some (.inr 12, HD Θ b D (h ++ [oB 12 []])) else some (.inl (b + 3 + ro D (fnd V id (mny V))), HD Θ b D h) := by
  have hw := fun c => fnd_lt (V := V) (id := id) I c
  have ek := c_known (Θ := Θ) (N := N) (b := b) (h := h) hN hb hd I i1 i2
  unfold P_L_docked
  rw [l_O hb, ek]
  generalize fnd V id (mny V) = w at hw ⊢
  have h4 := I.h4
  by_cases c : w = -1
  · rw [if_pos c, if_pos c, bx_inr]
    rfl
  · obtain ⟨w1, w2⟩ := hw c
    rw [if_neg c, if_neg c, bx_inl, v_O hb hd w1 (by omega), c_isDocked hb hd I w1 w2, bc_some]
    by_cases c2 : fd V w 4 = -1
    · rw [if_neg (show ¬ (fd V w 4 ≠ -1) by simpa using c2), if_pos (show J 0 = (0 : Int32) from rfl), if_pos c2, xp, BK_app hb]
    · rw [if_pos (show fd V w 4 ≠ -1 from c2), if_neg (show ¬ J 1 = (0 : Int32) by rw [J_0, J_eq] <;> omega), if_neg c2]
theorem c_leaveR (hN : 2000 ≤ N) (hb : bOK Θ 13 b h) (hd : DV D V) (I : Inv G H M V) {id : Int} (i1 : -2147483648 ≤ id) (i2 : id < 2147483648) : P_D_leaveRefusal Θ N (HD Θ b D h) b (J id) = if fnd V id (mny V) = -1 then some (.inr 10, HD Θ b D (h ++ [oB 10 []])) else if ¬ (fd V (fnd V id (mny V)) 4 ≠ -1 ∧ V 2 = 1) then some (.inr 12, HD Θ b D (h ++ [oB 12 []])) else if V 1 < fd V (fnd V id (mny V)) 2 then some (.inl (J 3), HD Θ b D h) else if fd V (fnd V id (mny V)) 8 ≠ 0 then some (.inl (J 4), HD Θ b D h) else some (.inl (J 0), HD Θ b D h) := by
  have hw := fun c => fnd_lt (V := V) (id := id) I c
  have ek := c_dockedOne (Θ := Θ) (N := N) (b := b) (h := h) hN hb hd I i1 i2
  unfold P_D_leaveRefusal
  rw [d_A0 hb, bo_some, l_O hb, ek]
  generalize fnd V id (mny V) = w at hw ⊢
  have h4 := I.h4
  have v1 := I.h1
  have v2 := I.h2
  by_cases c : w = -1
  · rw [if_pos c, if_pos c, bx_inr]
    rfl
  · obtain ⟨w1, w2⟩ := hw c
    have b8 := I.ok.fd w 8
    rw [if_neg c, if_neg c]
    by_cases c2 : fd V w 4 = -1
    · rw [if_pos c2, bx_inr, if_pos (fun x => x.1 c2)]
      rfl
    · rw [if_neg c2, bx_inl, v_S2 hb hd, bo_some]
      by_cases c3 : V 2 = 1
      · rw [if_neg (by rw [c3, J_0, J_eq] <;> omega), if_neg (show ¬ ¬ _ from fun x => x ⟨c2, c3⟩), v_S1 hb hd, bo_some, v_O hb hd w1 (by omega), c_floatsAt hb hd I w1 w2 (by omega) (by omega), bc_some]
        by_cases c5 : V 1 < fd V w 2
        · rw [if_neg (show ¬ (fd V w 4 = -1 ∨ fd V w 2 ≤ V 1) by omega), if_pos (show J 0 = (0 : Int32) from rfl), if_pos c5]
        · rw [if_pos (show fd V w 4 = -1 ∨ fd V w 2 ≤ V 1 by omega), if_neg (show ¬ J 1 = (0 : Int32) by rw [J_0, J_eq] <;> omega), if_neg c5, v_I8 hb hd w1 w2 (by omega), bo_some]
          by_cases c6 : fd V w 8 = 0
          · rw [if_pos (by rw [c6]; rfl), if_neg (show ¬ (fd V w 8 ≠ 0) by simpa using c6)]
          · rw [if_neg (by rw [J_0, J_eq] <;> omega), if_pos c6]
      · rw [if_pos (by rw [show V 2 = 0 by omega]; rfl), if_pos (fun x => c3 x.2), xp, BK_app hb]
theorem c_clean (hN : 2000 ≤ N) (hb : bOK Θ 13 b h) (hd : DV D V) (I : Inv G H M V) {id x : Int} (i1 : -2147483648 ≤ id) (i2 : id < 2147483648) (hx : x = 0 ∨ x = 1) : if fnd V id (mny V) = -1 then P_D_switchCleaning Θ N (HD Θ b D h) b (J id) (J x) = some (.inr 10, HD Θ b D (h ++ [oB 10 []])) else if fd V (fnd V id (mny V)) 4 = -1 then P_D_switchCleaning Θ N (HD Θ b D h) b (J id) (J x) = some (.inr 12, HD Θ b D (h ++ [oB 12 []])) else ∃ D', P_D_switchCleaning Θ N (HD Θ b D h) b (J id) (J x) = some (.inl (J (fd V (fnd V id (mny V)) 5)), HD Θ b D' h) ∧ DV D' (up1 V (8 + 9 * fnd V id (mny V) + 5) x) := by
  have hw := fun c => fnd_lt (V := V) (id := id) I c
  have ek := c_dockedOne (Θ := Θ) (N := N) (b := b) (h := h) hN hb hd I i1 i2
  unfold P_D_switchCleaning
  rw [d_A0 hb, bo_some, l_O hb, ek]
  generalize fnd V id (mny V) = w at hw ⊢
  have h4 := I.h4
  by_cases c : w = -1
  · rw [if_pos c, if_pos c, bx_inr]
    rfl
  · obtain ⟨w1, w2⟩ := hw c
    have s := I.sh w w1 w2
    unfold shOK at s
    have hr := hd.rlt w1 (by omega)
    rw [if_neg c, if_neg c]
    by_cases c2 : fd V w 4 = -1
    · rw [if_pos c2, if_pos c2, bx_inr]
      rfl
    · rw [if_neg c2, if_neg c2]
      refine ⟨_, ?_, hd.put (i := 5) (v := x) w1 w2 (by omega) (by omega)⟩
      have a1 : J x = J 0 ∨ J x = J 1 := by rcases hx with rfl | rfl <;> simp
      have a2 : J (fd V w 5) = J 0 ∨ J (fd V w 5) = J 1 := by rcases s.2.2.2.2.2.1 with e | e <;> rw [e] <;> simp
      rw [bx_inl, v_I5 hb hd w1 w2 (by omega), bo_some, if_pos a1, s_W8 hb hr, bo_some, if_pos a2]
      rfl
theorem c_gate (hb : bOK Θ 13 b h) (hd : DV D V) (I : Inv G H M V) (hH : H ≤ 1000000) {x : Int} (hx : x = 0 ∨ x = 1) : if ¬ (x = 0 ∨ (-20 ≤ V 1 - sea (V 0) ∧ V 1 - sea (V 0) ≤ 20)) then P_D_moveGate Θ N (HD Θ b D h) b (J x) = some (.inr 13, HD Θ b D (h ++ [oB 13 []])) else P_D_moveGate Θ N (HD Θ b D h) b (J x) = some (.inl (J (V 2)), HD Θ b (up2 D 0 3 x) h) := by
  have h0 := I.h0
  have v1 := I.h1
  have v2 := I.h2
  have sl := sea_le (V 0)
  have a1 : J x = J 0 ∨ J x = J 1 := by rcases hx with rfl | rfl <;> simp
  have a2 : J (V 2) = J 0 ∨ J (V 2) = J 1 := by rcases v2 with e | e <;> rw [e] <;> simp
  have fin : (bo (rI Θ (HD Θ b D h) 1 b 3) (fun v7 => if J x = J 0 ∨ J x = J 1 then bo (wF Θ (HD Θ b D h) 1 b 3 (.int (J x))) (fun h8 => if v7 = J 0 ∨ v7 = J 1 then some (Sum.inl v7, h8) else none) else none) : Option ((Int32 ⊕ Nat) × mH)) = some (.inl (J (V 2)), HD Θ b (up2 D 0 3 x) h) := by
    rw [v_S2 hb hd, bo_some, if_pos a1, d_W3 hb, bo_some, if_pos a2]
  unfold P_D_moveGate
  rw [v_S1 hb hd, bo_some, v_S0 hb hd, bo_some, c_sea h0.1 (by omega), bc_some, jn_eq, J_sub, J_ab (by omega) (by omega), xp, BK_app hb]
  dsimp only
  rw [fin]
  rcases hx with rfl | rfl
  · rw [if_neg (by simp), if_pos (show J 0 = (0 : Int32) from rfl)]
  · rw [if_neg (show ¬ J 1 = (0 : Int32) by rw [J_0, J_eq] <;> omega)]
    by_cases c : 0 ≤ V 1 - sea (V 0)
    · rw [if_pos c]
      by_cases c2 : V 1 - sea (V 0) ≤ 20
      · rw [if_neg (show ¬ ¬ _ from fun x => x (Or.inr ⟨by omega, c2⟩)), if_pos (by rw [J_le] <;> omega)]
      · rw [if_pos (show ¬ _ by omega), if_neg (by rw [J_le] <;> omega)]
    · rw [if_neg c]
      by_cases c2 : -20 ≤ V 1 - sea (V 0)
      · rw [if_neg (show ¬ ¬ _ from fun x => x (Or.inr ⟨c2, by omega⟩)), if_pos (by rw [J_le] <;> omega)]
      · rw [if_pos (show ¬ _ by omega), if_neg (by rw [J_le] <;> omega)]
theorem c_rate (hb : bOK Θ 13 b h) (hd : DV D V) {x : Int} (i1 : -2147483648 ≤ x) (i2 : x < 2147483648) : P_D_changeRate Θ N (HD Θ b D h) b (J x) = if ¬ (-30 ≤ x ∧ x ≤ 30) then some (.inr 11, HD Θ b D (h ++ [oB 11 []])) else some (.inl (J (V 3)), HD Θ b (up2 D 0 4 x) h) := by
  unfold P_D_changeRate
  rw [xp, BK_app hb]
  by_cases c : -30 ≤ x ∧ x ≤ 30
  · rw [if_neg (by rw [J_lt] <;> omega), if_pos (by rw [J_le] <;> omega), if_neg (show ¬ ¬ _ from fun y => y c), v_S3 hb hd, bo_some, d_W4 hb, bo_some]
  · rw [if_pos c]
    by_cases c2 : x < -30
    · rw [if_pos (by rw [J_lt] <;> omega)]
    · rw [if_neg (by rw [J_lt] <;> omega), if_neg (by rw [J_le] <;> omega)]
theorem c_coins (hN : 2000 ≤ N) (hb : bOK Θ 13 b h) (hd : DV D V) (I : Inv G H M V) {id x : Int} (i1 : -2147483648 ≤ id) (i2 : id < 2147483648) (i3 : -2147483648 ≤ x) (i4 : x < 2147483648) : if fnd V id (mny V) = -1 then P_D_takeCoins Θ N (HD Θ b D h) b (J id) (J x) = some (.inr 10, HD Θ b D (h ++ [oB 10 []])) else if ¬ (1 ≤ x ∧ x ≤ 999) then P_D_takeCoins Θ N (HD Θ b D h) b (J id) (J x) = some (.inr 11, HD Θ b D (h ++ [oB 11 []])) else if fd V (fnd V id (mny V)) 8 < x then P_D_takeCoins Θ N (HD Θ b D h) b (J id) (J x) = some (.inr 12, HD Θ b D (h ++ [oB 12 []])) else ∃ D', P_D_takeCoins Θ N (HD Θ b D h) b (J id) (J x) = some (.inl (J (fd V (fnd V id (mny V)) 8 - x)), HD Θ b D' h) ∧ DV D' (payV V (fnd V id (mny V)) x) := by
  have hw := fun c => fnd_lt (V := V) (id := id) I c
  have ek := c_known (Θ := Θ) (N := N) (b := b) (h := h) hN hb hd I i1 i2
  unfold P_D_takeCoins
  rw [d_A0 hb, bo_some, l_O hb, ek]
  generalize fnd V id (mny V) = w at hw ⊢
  have h4 := I.h4
  by_cases c : w = -1
  · rw [if_pos c, if_pos c, bx_inr]
    rfl
  · obtain ⟨w1, w2⟩ := hw c
    have b8 := I.ok.fd w 8
    have hr := hd.rlt w1 (by omega)
    rw [if_neg c, if_neg c, bx_inl]
    by_cases c2 : 1 ≤ x ∧ x ≤ 999
    · rw [if_neg (show ¬ ¬ _ from fun y => y c2), if_neg (show ¬ J x < J 1 by rw [J_lt] <;> omega), if_pos (show J x ≤ J 999 by rw [J_le] <;> omega), v_I8 hb hd w1 w2 (by omega), bo_some]
      by_cases c3 : fd V w 8 < x
      · rw [if_pos c3, if_neg (show ¬ J x ≤ J (fd V w 8) by rw [J_le] <;> omega), xp, BK_app hb]
      · rw [if_neg c3, if_pos (show J x ≤ J (fd V w 8) by rw [J_le] <;> omega)]
        have d1 := hd.put (i := 8) (v := fd V w 8 - x) w1 w2 (by omega) (by omega)
        have d2 := d1.u7 (v := V 7 + x)
        refine ⟨_, ?_, d2⟩
        have e7 : up2 D (3 + ro D w) 6 (fd V w 8 - x) 0 7 = V 7 := by rw [up2_ne (by omega)]; exact hd.sc.2.2.2.2.2.2.2
        have e6 : up2 (up2 D (3 + ro D w) 6 (fd V w 8 - x)) 0 7 (V 7 + x) (3 + ro D w) 6 = fd V w 8 - x := by rw [up2_ne (by omega), up2_eq]
        rw [bo_some, J_sub, s_W6 hb hr, bo_some, d_I7 hb, bo_some, e7, J_add, d_W7 hb, bo_some, s_I6 hb hr, bo_some, e6]
        rfl
    · rw [if_pos c2]
      by_cases c3 : x < 1
      · rw [if_pos (by rw [J_lt] <;> omega), xp, BK_app hb]
      · rw [if_neg (by rw [J_lt] <;> omega), if_neg (by rw [J_le] <;> omega), xp, BK_app hb]
end C6
