/-! the class's blocks, levels ahead, signs; the sea by hours -/
section C7
variable {Θ : mW} {N b : Nat} {D : Nat → Int → Int} {V : Int → Int} {h : mH} {G H M : Int}
theorem c_checkPos {p : Int} (i1 : -2147483648 ≤ p) (i2 : p < 2147483648) : P_B_checkPosition Θ N h (J p) = if 0 ≤ p ∧ p ≤ 59 then some (.inl (), h) else some (.inr 11, h ++ [oB 11 []]) := by
  unfold P_B_checkPosition
  rw [xp]
  by_cases c : 0 ≤ p ∧ p ≤ 59
  · rw [if_pos c, if_neg (by rw [J_0, J_lt] <;> omega), if_pos (by rw [J_lt] <;> omega)]
  · rw [if_neg c]
    by_cases c2 : p < 0
    · rw [if_pos (by rw [J_0, J_lt] <;> omega)]
    · rw [if_neg (by rw [J_0, J_lt] <;> omega), if_neg (by rw [J_lt] <;> omega)]
theorem c_checkGap {p : Int} (i1 : -2147483648 ≤ p) (i2 : p < 2147483648) : P_L_checkGapLength Θ N h (J p) = if 1 ≤ p ∧ p ≤ 60 then some (.inl (), h) else some (.inr 11, h ++ [oB 11 []]) := by
  unfold P_L_checkGapLength
  rw [xp]
  by_cases c : 1 ≤ p ∧ p ≤ 60
  · rw [if_pos c, if_neg (by rw [J_lt] <;> omega), if_pos (by rw [J_le] <;> omega)]
  · rw [if_neg c]
    by_cases c2 : p < 1
    · rw [if_pos (by rw [J_lt] <;> omega)]
    · rw [if_neg (by rw [J_lt] <;> omega), if_neg (by rw [J_le] <;> omega)]
theorem c_checkHour {p : Int} (i1 : -2147483648 ≤ p) (i2 : p < 2147483648) : P_E_checkHour Θ N h (J p) = if 0 ≤ p ∧ p ≤ 9999 then some (.inl (), h) else some (.inr 11, h ++ [oB 11 []]) := by
  unfold P_E_checkHour
  rw [xp]
  by_cases c : 0 ≤ p ∧ p ≤ 9999
  · rw [if_pos c, if_neg (by rw [J_0, J_lt] <;> omega), if_pos (by rw [J_le] <;> omega)]
  · rw [if_neg c]
    by_cases c2 : p < 0
    · rw [if_pos (by rw [J_0, J_lt] <;> omega)]
    · rw [if_neg (by rw [J_0, J_lt] <;> omega), if_neg (by rw [J_le] <;> omega)]
theorem c_isFull (hb : bOK Θ 13 b h) (hd : DV D V) (I : Inv G H M V) : P_B_isFull Θ N (HD Θ b D h) (b + 11) = some (J (if blk V 60 < 20 then 0 else 1), HD Θ b D h) := by
  unfold P_B_isFull
  have hc := hd.c20 I
  have e := hd.bl.2.1
  rw [b_I1 hb, bo_some]
  by_cases c : blk V 60 < 20
  · rw [if_pos c, if_pos (by rw [J_lt] <;> omega)]
  · rw [if_neg c, if_neg (by rw [J_lt] <;> omega)]
theorem c_work (hN : 2000 ≤ N) (hb : bOK Θ 13 b h) (hd : DV D V) (I : Inv G H M V) {p : Int} (i1 : 0 ≤ p) (i2 : p < 60) : P_D_checkWorkAt Θ N (HD Θ b D h) b (J p) = if V 1 ≤ 30 ∧ at' V p = -1 then some (.inl (), HD Θ b D h) else some (.inr 13, HD Θ b D (h ++ [oB 13 []])) := by
  unfold P_D_checkWorkAt
  have v1 := I.h1
  rw [v_S1 hb hd, bo_some]
  by_cases c : 30 < V 1
  · rw [if_pos (by rw [J_lt] <;> omega), if_neg (by omega), xp, BK_app hb]
  · rw [if_neg (by rw [J_lt] <;> omega), d_A0 hb, bo_some, l_O hb, c_overlapping hN hb hd I (by omega) (by omega) (by omega) (by omega), ovf_at I]
    by_cases c2 : at' V p = -1
    · rw [if_pos c2, bn_none, if_pos ⟨by omega, c2⟩]
    · rw [if_neg c2, bn_some, if_neg (fun x => c2 x.2), xp, BK_app hb]
theorem DV.addB (hd : DV D V) (I : Inv G H M V) {p : Int} (p1 : 0 ≤ p) (p2 : p < 60) (hp : ¬ V (80 + p) = 1) : DV (up2 (up2 D 12 (D 11 1) p) 11 1 (D 11 1 + 1)) (up1 V (80 + p) 1) := by
  have s := hd.sc
  have b9 := hd.bl
  have h4 := I.h4
  have hb := I.bl p p1 p2
  have e : ∀ (a : Nat) (j : Int), a ≠ 11 → a ≠ 12 → up2 (up2 D 12 (D 11 1) p) 11 1 (D 11 1 + 1) a j = D a j := fun a j x y => by rw [up2_ne x, up2_ne y]
  have e11 : up2 (up2 D 12 (D 11 1) p) 11 1 (D 11 1 + 1) 11 1 = D 11 1 + 1 := up2_eq
  have e12 : ∀ j : Int, up2 (up2 D 12 (D 11 1) p) 11 1 (D 11 1 + 1) 12 j = if j = D 11 1 then p else D 12 j := fun j => by
    rw [up2_ne (by omega), up2_at]
    by_cases c : j = D 11 1
    · rw [if_pos ⟨rfl, c⟩, if_pos c]
    · rw [if_neg (fun x => c x.2), if_neg c]
  have er : ∀ k, ro (up2 (up2 D 12 (D 11 1) p) 11 1 (D 11 1 + 1)) k = ro D k := fun k => by unfold ro; rw [e 2 k (by omega) (by omega)]
  have lo : ∀ j : Int, j < 80 → up1 V (80 + p) 1 j = V j := fun j a => up1_nj (by omega)
  refine ⟨?_, ?_, ?_, ?_⟩
  · rw [e 0 5 (by omega) (by omega), e 0 2 (by omega) (by omega), e 0 3 (by omega) (by omega), e 0 4 (by omega) (by omega), e 1 1 (by omega) (by omega), e 1 2 (by omega) (by omega), e 0 6 (by omega) (by omega), e 0 7 (by omega) (by omega), lo 0 (by omega), lo 1 (by omega), lo 2 (by omega), lo 3 (by omega), lo 4 (by omega), lo 5 (by omega), lo 6 (by omega), lo 7 (by omega)]
    exact s
  · refine ⟨fun k a c => ?_, fun k l a c d f => ?_⟩
    · rw [e 2 _ (by omega) (by omega)]
      exact hd.2.1.1 k a c
    · rw [e 2 _ (by omega) (by omega), e 2 _ (by omega) (by omega)]
      exact hd.2.1.2 k l a c d f
  · intro k a c i x y
    rw [lo 4 (by omega)] at c
    have hr := hd.rlt a (by omega)
    rw [er, e _ _ (by omega) (by omega)]
    unfold fd
    rw [lo _ (by omega)]
    exact hd.2.2.1 k a c i x y
  · rw [blk_up 60 p1 (by omega), e11]
    refine ⟨by omega, by omega, fun j x y => ?_, fun j l x y z => ?_, fun q x y => ?_⟩
    · rw [e12]
      split
      · omega
      · exact b9.2.2.1 j x (by omega)
    · rw [e12, e12, if_neg (show ¬ j = D 11 1 by omega)]
      split
      · intro w
        exact hp ((b9.2.2.2.2 p p1 p2).mpr ⟨j, x, by omega, w⟩)
      · exact b9.2.2.2.1 j l x y (by omega)
    · rw [up1_at]
      by_cases c : q = p
      · rw [if_pos (by omega)]
        refine ⟨fun _ => ⟨D 11 1, b9.1, by omega, by rw [e12, if_pos rfl, c]⟩, fun _ => rfl⟩
      · rw [if_neg (by omega)]
        refine (b9.2.2.2.2 q x y).trans ⟨fun ⟨i, q1, q2, q3⟩ => ⟨i, q1, by omega, by rw [e12, if_neg (by omega)]; exact q3⟩, fun ⟨i, q1, q2, q3⟩ => ?_⟩
        rw [e12] at q3
        split at q3
        · exact absurd q3.symm c
        · exact ⟨i, q1, by omega, q3⟩
theorem c_addBlock (hN : 2000 ≤ N) (hb : bOK Θ 13 b h) (hd : DV D V) (I : Inv G H M V) {p : Int} (i1 : -2147483648 ≤ p) (i2 : p < 2147483648) : if ¬ (0 ≤ p ∧ p ≤ 59) then P_D_addBlock Θ N (HD Θ b D h) b (J p) = some (.inr 11, HD Θ b D (h ++ [oB 11 []])) else if ¬ (blk V 60 < 20 ∧ ¬ V (80 + p) = 1) then P_D_addBlock Θ N (HD Θ b D h) b (J p) = some (.inr 12, HD Θ b D (h ++ [oB 12 []])) else if ¬ (V 1 ≤ 30 ∧ at' V p = -1) then P_D_addBlock Θ N (HD Θ b D h) b (J p) = some (.inr 13, HD Θ b D (h ++ [oB 13 []])) else ∃ D', P_D_addBlock Θ N (HD Θ b D h) b (J p) = some (.inl (J (blk (up1 V (80 + p) 1) 60)), HD Θ b D' h) ∧ DV D' (up1 V (80 + p) 1) := by
  have hc := hd.c20 I
  have e1 := hd.bl.2.1
  unfold P_D_addBlock
  rw [c_checkPos i1 i2]
  by_cases c : 0 ≤ p ∧ p ≤ 59
  · rw [if_pos c, if_neg (show ¬ ¬ _ from fun x => x c), bx_inl, d_A1 hb, bo_some, b_O hb, c_isFull hb hd I, bc_some]
    by_cases c2 : blk V 60 < 20
    · rw [if_pos c2, if_pos (show J 0 = (0 : Int32) from rfl), d_A1 hb, bo_some, b_O hb, c_isAt hN hb hd I (by omega) (by omega), bc_some]
      by_cases c3 : V (80 + p) = 1
      · rw [if_pos c3, if_neg (show ¬ J 1 = (0 : Int32) by rw [J_0, J_eq] <;> omega), if_pos (fun x => x.2 c3), xp, BK_app hb]
      · rw [if_neg c3, if_pos (show J 0 = (0 : Int32) from rfl), if_neg (show ¬ ¬ _ from fun x => x ⟨c2, c3⟩), d_O1 hb, c_work hN hb hd I (by omega) (by omega)]
        by_cases c4 : V 1 ≤ 30 ∧ at' V p = -1
        · rw [if_pos c4, if_neg (show ¬ ¬ _ from fun x => x c4)]
          refine ⟨_, ?_, hd.addB I c.1 (by omega) c3⟩
          have hbk := blk_up (V := V) (p := p) (v := 1) 60 c.1 (by omega)
          have hv := I.bl p c.1 (by omega)
          rw [bx_inl, d_A1 hb, bo_some, b_O hb]
          unfold P_B_add
          rw [b_O hb, c_isFull hb hd I, bc_some, if_pos c2, if_pos (show J 0 = (0 : Int32) from rfl), b_A0 hb, bo_some, b_I1 hb, bo_some, b_w hb (by omega) (by omega), bo_some, b_I1 hb, bo_some, up2_ne (by omega), J_add, b_W1 hb, bo_some, bc_some, d_A1 hb, bo_some, b_I1 hb, bo_some, up2_eq, hbk, show D 11 1 + 1 = blk V 60 + (1 - V (80 + p)) by omega]
        · rw [if_neg c4, if_pos c4, bx_inr, xp]
    · rw [if_neg c2, if_neg (show ¬ J 1 = (0 : Int32) by rw [J_0, J_eq] <;> omega), if_pos (fun x => c2 x.1), xp, BK_app hb]
  · rw [if_neg c, if_pos c, bx_inr, xp, BK_app hb]
theorem DV.rmB (hd : DV D V) (I : Inv G H M V) {p i : Int} (p1 : 0 ≤ p) (p2 : p < 60) (h1 : 0 ≤ i) (h2 : i < D 11 1) (hi : D 12 i = p) : DV (up2 (up2 D 11 1 (D 11 1 - 1)) 12 i (D 12 (D 11 1 - 1))) (up1 V (80 + p) 0) := by
  have s := hd.sc
  have b9 := hd.bl
  have h4 := I.h4
  have hv : V (80 + p) = 1 := (b9.2.2.2.2 p p1 p2).mpr ⟨i, h1, h2, hi⟩
  have e : ∀ (a : Nat) (j : Int), a ≠ 11 → a ≠ 12 → up2 (up2 D 11 1 (D 11 1 - 1)) 12 i (D 12 (D 11 1 - 1)) a j = D a j := fun a j x y => by rw [up2_ne y, up2_ne x]
  have e11 : up2 (up2 D 11 1 (D 11 1 - 1)) 12 i (D 12 (D 11 1 - 1)) 11 1 = D 11 1 - 1 := by rw [up2_ne (by omega), up2_eq]
  have e12 : ∀ j : Int, up2 (up2 D 11 1 (D 11 1 - 1)) 12 i (D 12 (D 11 1 - 1)) 12 j = if j = i then D 12 (D 11 1 - 1) else D 12 j := fun j => by
    rw [up2_at]
    by_cases c : j = i
    · rw [if_pos ⟨rfl, c⟩, if_pos c]
    · rw [if_neg (fun x => c x.2), if_neg c, up2_ne (by omega)]
  have er : ∀ k, ro (up2 (up2 D 11 1 (D 11 1 - 1)) 12 i (D 12 (D 11 1 - 1))) k = ro D k := fun k => by unfold ro; rw [e 2 k (by omega) (by omega)]
  have lo : ∀ j : Int, j < 80 → up1 V (80 + p) 0 j = V j := fun j a => up1_nj (by omega)
  have inj : ∀ x y : Int, 0 ≤ x → x < D 11 1 → 0 ≤ y → y < D 11 1 → D 12 x = D 12 y → x = y := fun x y x1 x2 y1 y2 z => by
    by_cases c : x < y
    · exact absurd z (b9.2.2.2.1 x y x1 c y2)
    · by_cases d : y < x
      · exact absurd z.symm (b9.2.2.2.1 y x y1 d x2)
      · omega
  refine ⟨?_, ?_, ?_, ?_⟩
  · rw [e 0 5 (by omega) (by omega), e 0 2 (by omega) (by omega), e 0 3 (by omega) (by omega), e 0 4 (by omega) (by omega), e 1 1 (by omega) (by omega), e 1 2 (by omega) (by omega), e 0 6 (by omega) (by omega), e 0 7 (by omega) (by omega), lo 0 (by omega), lo 1 (by omega), lo 2 (by omega), lo 3 (by omega), lo 4 (by omega), lo 5 (by omega), lo 6 (by omega), lo 7 (by omega)]
    exact s
  · refine ⟨fun k a c => ?_, fun k l a c d f => ?_⟩
    · rw [e 2 _ (by omega) (by omega)]
      exact hd.2.1.1 k a c
    · rw [e 2 _ (by omega) (by omega), e 2 _ (by omega) (by omega)]
      exact hd.2.1.2 k l a c d f
  · intro k a c j x y
    rw [lo 4 (by omega)] at c
    have hr := hd.rlt a (by omega)
    rw [er, e _ _ (by omega) (by omega)]
    unfold fd
    rw [lo _ (by omega)]
    exact hd.2.2.1 k a c j x y
  · rw [blk_up 60 p1 (by omega), e11]
    refine ⟨by omega, by omega, fun j x y => ?_, fun j l x y z => ?_, fun q x y => ?_⟩
    · rw [e12]
      split
      · exact b9.2.2.1 _ (by omega) (by omega)
      · exact b9.2.2.1 j x (by omega)
    · rw [e12, e12]
      by_cases c : j = i
      · rw [if_pos c, if_neg (show ¬ l = i by omega)]
        intro w
        have := inj _ _ (by omega) (by omega) (by omega) (by omega) w
        omega
      · rw [if_neg c]
        split
        · intro w
          have := inj _ _ x (by omega) (by omega) (by omega) w
          omega
        · exact b9.2.2.2.1 j l x y (by omega)
    · rw [up1_at]
      by_cases c : q = p
      · rw [if_pos (by omega)]
        refine ⟨fun w => by omega, fun ⟨j, q1, q2, q3⟩ => ?_⟩
        exfalso
        rw [e12] at q3
        split at q3
        · have := inj (D 11 1 - 1) i (by omega) (by omega) h1 h2 (by rw [q3, hi, c])
          omega
        · have := inj j i q1 (by omega) h1 h2 (by rw [q3, hi, c])
          omega
      · rw [if_neg (by omega)]
        refine (b9.2.2.2.2 q x y).trans ⟨fun ⟨j, q1, q2, q3⟩ => ?_, fun ⟨j, q1, q2, q3⟩ => ?_⟩
        · by_cases d : j = D 11 1 - 1
          · exact ⟨i, h1, by
              by_cases f : i = D 11 1 - 1
              · exact absurd (by rw [← q3, d, ← f, hi]) c
              · omega, by rw [e12, if_pos rfl, ← d]; exact q3⟩
          · exact ⟨j, q1, by omega, by rw [e12, if_neg (fun f => c (by rw [← q3, f, hi]))]; exact q3⟩
        · rw [e12] at q3
          split at q3
          · exact ⟨D 11 1 - 1, by omega, by omega, q3⟩
          · exact ⟨j, q1, by omega, q3⟩
theorem c_takeBlock (hN : 2000 ≤ N) (hb : bOK Θ 13 b h) (hd : DV D V) (I : Inv G H M V) {p : Int} (i1 : -2147483648 ≤ p) (i2 : p < 2147483648) : if ¬ (0 ≤ p ∧ p ≤ 59) then P_D_takeBlock Θ N (HD Θ b D h) b (J p) = some (.inr 11, HD Θ b D (h ++ [oB 11 []])) else if ¬ V (80 + p) = 1 then P_D_takeBlock Θ N (HD Θ b D h) b (J p) = some (.inr 10, HD Θ b D (h ++ [oB 10 []])) else if ¬ (V 1 ≤ 30 ∧ at' V p = -1) then P_D_takeBlock Θ N (HD Θ b D h) b (J p) = some (.inr 13, HD Θ b D (h ++ [oB 13 []])) else ∃ D', P_D_takeBlock Θ N (HD Θ b D h) b (J p) = some (.inl (J (blk (up1 V (80 + p) 0) 60)), HD Θ b D' h) ∧ DV D' (up1 V (80 + p) 0) := by
  have hc := hd.c20 I
  have e1 := hd.bl.2.1
  unfold P_D_takeBlock
  rw [c_checkPos i1 i2]
  by_cases c : 0 ≤ p ∧ p ≤ 59
  · rw [if_pos c, if_neg (show ¬ ¬ _ from fun x => x c), bx_inl, d_A1 hb, bo_some, b_O hb, c_isAt hN hb hd I (by omega) (by omega), bc_some]
    by_cases c3 : V (80 + p) = 1
    · rw [if_pos c3, if_neg (show ¬ J 1 = (0 : Int32) by rw [J_0, J_eq] <;> omega), if_neg (show ¬ ¬ _ from fun x => x c3), d_O1 hb, c_work hN hb hd I (by omega) (by omega)]
      by_cases c4 : V 1 ≤ 30 ∧ at' V p = -1
      · rw [if_pos c4, if_neg (show ¬ ¬ _ from fun x => x c4)]
        have hx := (ixf_V hd c.1 (by omega)).mpr c3
        have hr := ixf_rng (D := D) (p := p) (D 11 1).toNat 0 (by omega)
        have hh := ixf_hit (D := D) (p := p) (D 11 1).toNat 0 (by omega) hx
        have hix := c_indexOf (Θ := Θ) (N := N) (h := h) (b := b) hN hb hd I (p := p) (by omega) (by omega)
        generalize ixf D p (D 11 1).toNat 0 = i at hx hr hh hix
        refine ⟨_, ?_, hd.rmB I c.1 (by omega) (i := i) (by omega) (by omega) hh⟩
        have hbk := blk_up (V := V) (p := p) (v := 0) 60 c.1 (by omega)
        rw [bx_inl, d_A1 hb, bo_some, b_O hb]
        unfold P_B_remove
        rw [b_O hb, hix, bc_some, if_neg (by rw [J_eq] <;> omega), b_I1 hb, bo_some, J_sub, b_W1 hb, bo_some]
        simp (disch := omega) only [b_A0 hb, bo_some, b_I1 hb, up2_eq, b_a hb, b_w hb, bc_some, d_A1 hb, up2_ne]
        rw [hbk, show D 11 1 - 1 = blk V 60 + (0 - V (80 + p)) by omega]
      · rw [if_neg c4, if_pos c4, bx_inr, xp]
    · rw [if_neg c3, if_pos (show J 0 = (0 : Int32) from rfl), if_pos c3, xp, BK_app hb]
  · rw [if_neg c, if_pos c, bx_inr, xp, BK_app hb]
theorem c_fore_L (hb : bOK Θ 13 b h) (hd : DV D V) (I : Inv G H M V) (hH : H ≤ 1000000) {t : Int} (t2 : t ≤ 96) {K : mH → Int32 → Option ((Int32 ⊕ Nat) × mH)} : ∀ (r j n : Nat), (j : Int) + r = t → r < n → P_D_foreseenLevel_27 Θ N K b (J t) n (HD Θ b D h) (J (lva V j)) (J (1 + j)) = K (HD Θ b D h) (J (lva V t.toNat)) := by
  intro r
  have h0 := I.h0
  have h1 := I.h1
  induction r with
  | zero =>
    intro j n hj hn
    obtain ⟨n, rfl⟩ : ∃ n', n = n' + 1 := ⟨n - 1, by omega⟩
    rw [E_D_foreseenLevel_27, B_D_foreseenLevel_27, if_pos (by rw [J_lt] <;> omega), show t.toNat = j by omega]
  | succ r ih =>
    intro j n hj hn
    obtain ⟨n, rfl⟩ : ∃ n', n = n' + 1 := ⟨n - 1, by omega⟩
    have ih' := ih (j + 1) n (by omega) (by omega)
    have b1 := lva_rng h1.1 h1.2 j
    rw [lva] at ih'
    rw [E_D_foreseenLevel_27, B_D_foreseenLevel_27, if_neg (by rw [J_lt] <;> omega), v_S0 hb hd, bo_some, J_add, d_O1 hb, c_level hb hd I (by omega) (by omega) (by omega) (by omega), bc_some, J_add, ← ih', show V 0 + (1 + (j : Int)) = V 0 + ((j : Int) + 1) by omega, show (1 : Int) + ((j + 1 : Nat) : Int) = 1 + (j : Int) + 1 by omega]
theorem c_foreseen (hN : 2000 ≤ N) (hb : bOK Θ 13 b h) (hd : DV D V) (I : Inv G H M V) (hH : H ≤ 1000000) {t : Int} (i1 : -2147483648 ≤ t) (i2 : t < 2147483648) : P_D_foreseenLevel Θ N (HD Θ b D h) b (J t) = if 0 ≤ t ∧ t ≤ 96 then some (.inl (J (lva V t.toNat)), HD Θ b D h) else some (.inr 11, HD Θ b D (h ++ [oB 11 []])) := by
  unfold P_D_foreseenLevel
  rw [xp, BK_app hb]
  by_cases c : 0 ≤ t ∧ t ≤ 96
  · have e := c_fore_L (Θ := Θ) (N := N) (h := h) (b := b) (K := fun h5 u6 => some (.inl u6, h5)) hb hd I hH c.2 t.toNat 0 N (by omega) (by omega)
    rw [if_pos c, if_neg (by rw [J_0, J_lt] <;> omega), if_pos (by rw [J_le] <;> omega), v_S1 hb hd, bo_some]
    exact e
  · rw [if_neg c]
    by_cases c2 : t < 0
    · rw [if_pos (by rw [J_0, J_lt] <;> omega)]
    · rw [if_neg (by rw [J_0, J_lt] <;> omega), if_neg (by rw [J_le] <;> omega)]
theorem c_until_L (hb : bOK Θ 13 b h) (hd : DV D V) (I : Inv G H M V) (hH : H ≤ 1000000) {w : Int} (w1 : 0 ≤ w) (w2 : w < V 4) (hw : fd V w 4 ≠ -1) {K : mH → Option ((Int32 ⊕ Nat) × mH)} : ∀ (r j n : Nat), j + r = 97 → r < n → P_D_hoursToFloat_17 Θ N K b (b + 3 + ro D w) n (HD Θ b D h) (J (lva V j)) (J j) = if hgo V w r j = -1 then K (HD Θ b D h) else some (.inl (J (hgo V w r j)), HD Θ b D h) := by
  intro r
  have h0 := I.h0
  have h1 := I.h1
  have h4 := I.h4
  induction r with
  | zero =>
    intro j n hj hn
    obtain ⟨n, rfl⟩ : ∃ n', n = n' + 1 := ⟨n - 1, by omega⟩
    rw [E_D_hoursToFloat_17, B_D_hoursToFloat_17, if_pos (by rw [J_lt] <;> omega), hgo, if_pos rfl]
  | succ r ih =>
    intro j n hj hn
    obtain ⟨n, rfl⟩ : ∃ n', n = n' + 1 := ⟨n - 1, by omega⟩
    have ih' := ih (j + 1) n (by omega) (by omega)
    have b1 := lva_rng h1.1 h1.2 j
    rw [lva] at ih'
    rw [E_D_hoursToFloat_17, B_D_hoursToFloat_17, if_neg (by rw [J_lt] <;> omega), v_O hb hd w1 (by omega), c_floatsAt hb hd I w1 w2 (by omega) (by omega), bc_some, hgo]
    by_cases c : fd V w 2 ≤ lva V j
    · rw [if_pos (Or.inr c), if_neg (show ¬ J 1 = (0 : Int32) by rw [J_0, J_eq] <;> omega), if_pos c, if_neg (by omega)]
    · rw [if_neg (show ¬ (fd V w 4 = -1 ∨ fd V w 2 ≤ lva V j) from fun x => x.elim hw c), if_pos (show J 0 = (0 : Int32) from rfl), if_neg c, v_S0 hb hd, bo_some, J_add, J_add, d_O1 hb, c_level hb hd I (by omega) (by omega) (by omega) (by omega), bc_some, J_add, ← ih', show V 0 + (j : Int) + 1 = V 0 + ((j : Int) + 1) by omega]
      rfl
theorem c_until (hN : 2000 ≤ N) (hb : bOK Θ 13 b h) (hd : DV D V) (I : Inv G H M V) (hH : H ≤ 1000000) {id : Int} (i1 : -2147483648 ≤ id) (i2 : id < 2147483648) : P_D_hoursToFloat Θ N (HD Θ b D h) b (J id) = if fnd V id (mny V) = -1 then some (.inr 10, HD Θ b D (h ++ [oB 10 []])) else if fd V (fnd V id (mny V)) 4 = -1 ∨ fd V (fnd V id (mny V)) 2 ≤ V 1 then some (.inl (J 0), HD Θ b D h) else if hgo V (fnd V id (mny V)) 96 1 = -1 then some (.inr 12, HD Θ b D (h ++ [oB 12 []])) else some (.inl (J (hgo V (fnd V id (mny V)) 96 1)), HD Θ b D h) := by
  have hw := fun c => fnd_lt (V := V) (id := id) I c
  have ek := c_known (Θ := Θ) (N := N) (b := b) (h := h) hN hb hd I i1 i2
  unfold P_D_hoursToFloat
  rw [d_A0 hb, bo_some, l_O hb, ek]
  generalize fnd V id (mny V) = w at hw ⊢
  have h4 := I.h4
  have v1 := I.h1
  by_cases c : w = -1
  · rw [if_pos c, if_pos c, bx_inr]
    rfl
  · obtain ⟨w1, w2⟩ := hw c
    rw [if_neg c, if_neg c, bx_inl, v_S1 hb hd, bo_some]
    by_cases c1 : fd V w 4 = -1
    · obtain ⟨n, rfl⟩ : ∃ n', N = n' + 1 := ⟨N - 1, by omega⟩
      rw [if_pos (Or.inl c1), E_D_hoursToFloat_17, B_D_hoursToFloat_17, if_neg (by rw [J_lt] <;> omega), v_O hb hd w1 (by omega), c_floatsAt hb hd I w1 w2 (by omega) (by omega), bc_some, if_pos (Or.inl c1), if_neg (show ¬ J 1 = (0 : Int32) by rw [J_0, J_eq] <;> omega)]
    · have e := c_until_L (Θ := Θ) (N := N) (b := b) (h := h) (K := fun h10 => xp 12 (h10 ++ [oB 12 []])) hb hd I hH w1 w2 c1 97 0 N (by omega) (by omega)
      refine (show _ = _ from e).trans ?_
      rw [show hgo V w 97 0 = if fd V w 2 ≤ lva V 0 then ((0 : Nat) : Int) else hgo V w 96 1 from rfl, show lva V 0 = V 1 from rfl]
      by_cases c2 : fd V w 2 ≤ V 1
      · rw [if_pos c2, if_pos (Or.inr c2), if_neg (by omega)]
        rfl
      · rw [if_neg c2, if_neg (show ¬ (fd V w 4 = -1 ∨ fd V w 2 ≤ V 1) from fun x => x.elim c1 c2), xp, BK_app hb]
/-- the sign at a metre -/
def sgn (V : Int → Int) (p : Int) : Int := if at' V p = -1 then (if V (80 + p) = 1 then 94 else 46) else 48 + fd V (at' V p) 0 % 10
theorem J_rem10 {a : Int} (h1 : 0 ≤ a) (h2 : a < 2147483648) : J a - J a / J 10 * J 10 = J (a % 10) := by
  rw [J_div h1 h2 (by omega) (by omega), J_mul, J_sub, show a - a / 10 * 10 = a % 10 by omega]
theorem chr_rng {v : Int} (h1 : 0 ≤ v) (h2 : v < 65536) : (0 : Int32) ≤ J v ∧ J v ≤ 65535 := by
  refine ⟨?_, ?_⟩
  · rw [J_0le (by omega) (by omega)]; exact h1
  · show J v ≤ J 65535
    rw [J_le (by omega) (by omega) (by omega) (by omega)]
    omega
theorem c_sign (hN : 2000 ≤ N) (hb : bOK Θ 13 b h) (hd : DV D V) (I : Inv G H M V) {p : Int} (i1 : 0 ≤ p) (i2 : p < 60) : P_D_signAt Θ N (HD Θ b D h) b (J p) = some (J (sgn V p), HD Θ b D h) := by
  unfold P_D_signAt sgn
  have h4 := I.h4
  have ha := at_le (S := fun _ => V) I.ok (p := p)
  rw [d_A0 hb, bo_some, l_O hb, c_overlapping hN hb hd I (by omega) (by omega) (by omega) (by omega), ovf_at I]
  by_cases c : at' V p = -1
  · rw [if_pos c, bn_none, if_pos c, d_A1 hb, bo_some, b_O hb, c_isAt hN hb hd I i1 i2, bc_some]
    by_cases c2 : V (80 + p) = 1
    · rw [if_pos c2, if_pos c2, if_neg (show ¬ J 1 = (0 : Int32) by rw [J_0, J_eq] <;> omega), if_pos (chr_rng (by omega) (by omega))]
    · rw [if_neg c2, if_neg c2, if_pos (show J 0 = (0 : Int32) from rfl), if_pos (chr_rng (by omega) (by omega))]
  · have sh := I.sh (at' V p) (by omega) (by omega)
    unfold shOK at sh
    have b0 := I.ok.fd (at' V p) 0
    rw [if_neg c, bn_some, if_neg c, v_I0 hb hd (by omega) (by omega) (by omega), bo_some, J_rem10 (by omega) (by omega), J_add, J_chr (by omega) (by omega), if_pos (chr_rng (by omega) (by omega))]
theorem c_accounts (hb : bOK Θ 13 b h) (hd : DV D V) : P_D_billsByAccount Θ N (HD Θ b D h) b = some (J (V 6 - V 7), HD Θ b D h) := by
  unfold P_D_billsByAccount
  rw [v_S6 hb hd, bo_some, v_S7 hb hd, bo_some, J_sub]
/-! the sea -/
theorem J_rem12 {a : Int} (h1 : 0 ≤ a) (h2 : a < 2147483648) : J a - J a / J 12 * J 12 = J (a % 12) := by
  rw [J_div h1 h2 (by omega) (by omega), J_mul, J_sub, show a - a / 12 * 12 = a % 12 by omega]
theorem c_step {t : Int} (h1 : 0 ≤ t) (h2 : t ≤ 100000000) : P_E_stepAfter Θ N h (J t) = some (J (sea (t + 1) - sea t), h) := by
  unfold P_E_stepAfter
  rw [J_rem12 h1 (by omega)]
  by_cases c : 6 ≤ t % 12
  · rw [if_pos (by rw [J_le] <;> omega), show sea (t + 1) - sea t = -20 by unfold sea; split <;> split <;> omega]
  · rw [if_neg (by rw [J_le] <;> omega), show sea (t + 1) - sea t = 20 by unfold sea; split <;> split <;> omega]
theorem c_byHours_L {t : Int} (h2 : t ≤ 100000000) {K : mH → Int32 → Option (Int32 × mH)} : ∀ (r : Nat) (j : Int) (n : Nat), 0 ≤ j → j + r = t → r < n → P_E_byHours_5 Θ N K (J t) n h (J (sea j)) (J j) = K h (J (sea t)) := by
  intro r
  induction r with
  | zero =>
    intro j n h0 hj hn
    obtain ⟨n, rfl⟩ : ∃ n', n = n' + 1 := ⟨n - 1, by omega⟩
    rw [E_E_byHours_5, B_E_byHours_5, if_pos (by rw [J_le] <;> omega), show j = t by omega]
  | succ r ih =>
    intro j n h0 hj hn
    obtain ⟨n, rfl⟩ : ∃ n', n = n' + 1 := ⟨n - 1, by omega⟩
    rw [E_E_byHours_5, B_E_byHours_5, if_neg (by rw [J_le] <;> omega), c_step h0 (by omega), bc_some, J_add, J_add, show sea j + (sea (j + 1) - sea j) = sea (j + 1) by omega]
    exact ih (j + 1) n (by omega) (by omega) (by omega)
theorem c_byHours {t : Int} (h1 : 0 ≤ t) (h2 : t ≤ 1000000) (hN : t < N) : P_E_byHours Θ N h (J t) = some (J (sea t), h) := by
  unfold P_E_byHours
  have := c_byHours_L (Θ := Θ) (N := N) (h := h) (t := t) (K := fun h3 u4 => some (u4, h3)) (by omega) t.toNat 0 N (by omega) (by omega) (by omega)
  exact this
theorem c_agrees_L {t : Int} (h1 : 0 ≤ t) (h2 : t ≤ 1000000) {K : mH → Option (Int32 × mH)} : ∀ (r : Nat) (j : Int) (n : Nat), 0 ≤ j → j + r = 25 → r < n → P_E_agreesFrom_7 Θ N K (J t) n h (J (sea (t + j))) (J j) = K h := by
  intro r
  induction r with
  | zero =>
    intro j n h0 hj hn
    obtain ⟨n, rfl⟩ : ∃ n', n = n' + 1 := ⟨n - 1, by omega⟩
    rw [E_E_agreesFrom_7, B_E_agreesFrom_7, if_pos (by rw [J_lt] <;> omega)]
  | succ r ih =>
    intro j n h0 hj hn
    obtain ⟨n, rfl⟩ : ∃ n', n = n' + 1 := ⟨n - 1, by omega⟩
    rw [E_E_agreesFrom_7, B_E_agreesFrom_7, if_neg (by rw [J_lt] <;> omega), J_add, c_sea (by omega) (by omega), bc_some, if_pos rfl, c_step (by omega) (by omega), bc_some, J_add, J_add, show sea (t + j) + (sea (t + j + 1) - sea (t + j)) = sea (t + (j + 1)) by rw [show t + (j + 1) = t + j + 1 by omega]; omega]
    exact ih (j + 1) n (by omega) (by omega) (by omega)
theorem c_agrees {t : Int} (h1 : 0 ≤ t) (h2 : t ≤ 1000000) (hN : t < N) (hN2 : 2000 ≤ N) : P_E_agreesFrom Θ N h (J t) = some (J 1, h) := by
  unfold P_E_agreesFrom
  rw [c_byHours h1 h2 hN, bc_some]
  have := c_agrees_L (Θ := Θ) (N := N) (h := h) (K := fun h7 => some (J 1, h7)) h1 h2 25 0 N (by omega) (by omega) (by omega)
  rw [show t + 0 = t by omega] at this
  exact this
end C7
