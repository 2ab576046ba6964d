/-! the class's other changes, dock by dock -/
section C5
variable {Θ : mW} {N b : Nat} {D : Nat → Int → Int} {V : Int → Int} {h : mH} {G H M : Int}
/-- a new ship in the row behind the last -/
theorem DV.add (hd : DV D V) (I : Inv G H M V) (h8 : V 4 < 8) {l d t : Int} : DV (up2 (up2 (up2 (up2 (up2 (up2 (up2 (up2 (up2 (up2 (up2 D (3 + ro D (V 4)) 0 (V 5)) (3 + ro D (V 4)) 1 l) (3 + ro D (V 4)) 2 d) (3 + ro D (V 4)) 3 t) (3 + ro D (V 4)) 4 0) (3 + ro D (V 4)) 5 0) (3 + ro D (V 4)) 6 0) (3 + ro D (V 4)) 7 (-1)) (3 + ro D (V 4)) 8 0) 1 1 (V 4 + 1)) 1 2 (V 5 + 1)) (addV V l d t) := by
  have h4 := I.h4
  have hr := hd.rlt (k := V 4) (by omega) (by omega)
  have s := hd.sc
  have b9 := hd.bl
  generalize hD : up2 (up2 (up2 (up2 (up2 (up2 (up2 (up2 (up2 D (3 + ro D (V 4)) 0 (V 5)) (3 + ro D (V 4)) 1 l) (3 + ro D (V 4)) 2 d) (3 + ro D (V 4)) 3 t) (3 + ro D (V 4)) 4 0) (3 + ro D (V 4)) 5 0) (3 + ro D (V 4)) 6 0) (3 + ro D (V 4)) 7 (-1)) (3 + ro D (V 4)) 8 0 = D1
  have e1 : ∀ (a : Nat) (j : Int), a ≠ 3 + ro D (V 4) → D1 a j = D a j := fun a j h9 => by
    rw [← hD]
    simp (disch := omega) only [up2_ne]
  have e : ∀ (a : Nat) (j : Int), a ≠ 3 + ro D (V 4) → a ≠ 1 → up2 (up2 D1 1 1 (V 4 + 1)) 1 2 (V 5 + 1) a j = D a j := fun a j h9 h8 => by
    rw [up2_ne h8, up2_ne h8, e1 a j h9]
  have e11 : up2 (up2 D1 1 1 (V 4 + 1)) 1 2 (V 5 + 1) 1 1 = V 4 + 1 := by rw [up2_nj (by omega), up2_eq]
  have e12 : up2 (up2 D1 1 1 (V 4 + 1)) 1 2 (V 5 + 1) 1 2 = V 5 + 1 := up2_eq
  have er : ∀ k, ro (up2 (up2 D1 1 1 (V 4 + 1)) 1 2 (V 5 + 1)) k = ro D k := fun k => by unfold ro; rw [e 2 k (by omega) (by omega)]
  have lo : ∀ j : Int, j < 8 → j ≠ 4 → j ≠ 5 → addV V l d t j = V j := fun j a c f => addV_lo h4.1 a c f
  refine ⟨?_, ?_, ?_, ?_⟩
  · rw [e 0 5 (by omega) (by omega), e 0 2 (by omega) (by omega), e 0 3 (by omega) (by omega), e 0 4 (by omega) (by omega), e11, e12, e 0 6 (by omega) (by omega), e 0 7 (by omega) (by omega), lo 0 (by omega) (by omega) (by omega), lo 1 (by omega) (by omega) (by omega), lo 2 (by omega) (by omega) (by omega), lo 3 (by omega) (by omega) (by omega), lo 6 (by omega) (by omega) (by omega), lo 7 (by omega) (by omega) (by omega)]
    exact ⟨s.1, s.2.1, s.2.2.1, s.2.2.2.1, rfl, rfl, s.2.2.2.2.2.2.1, s.2.2.2.2.2.2.2⟩
  · refine ⟨fun k a c => ?_, fun k l a c d f => ?_⟩
    · rw [e 2 _ (by omega) (by omega)]
      exact hd.2.1.1 k a c
    · rw [e 2 _ (by omega) (by omega), e 2 _ (by omega) (by omega)]
      exact hd.2.1.2 k l a c d f
  · intro k a c i x y
    have c' : k < V 4 + 1 := c
    rw [er]
    by_cases q : k = V 4
    · subst q
      rw [addV_new h4.1 ⟨x, y⟩, up2_ne (by omega), up2_ne (by omega), ← hD]
      have i9 : i = 0 ∨ i = 1 ∨ i = 2 ∨ i = 3 ∨ i = 4 ∨ i = 5 ∨ i = 6 ∨ i = 7 ∨ i = 8 := by omega
      rcases i9 with rfl | rfl | rfl | rfl | rfl | rfl | rfl | rfl | rfl <;> simp [sf, up2_at]
    · rw [addV_old h4.1 a (by omega) ⟨x, y⟩, e _ _ (fun z => q (hd.inj a (by omega) (by omega) (by omega) (by omega))) (by omega)]
      exact hd.2.2.1 k a (by omega) i x y
  · rw [blk_ext (V := V) 60 (fun p hp => addV_hi (by omega) (by omega)), e 11 1 (by omega) (by omega)]
    refine ⟨b9.1, b9.2.1, fun j x y => ?_, fun j l x y z => ?_, fun p x y => ?_⟩
    · rw [e 12 _ (by omega) (by omega)]
      exact b9.2.2.1 j x y
    · rw [e 12 _ (by omega) (by omega), e 12 _ (by omega) (by omega)]
      exact b9.2.2.2.1 j l x y z
    · rw [addV_hi (by omega) (by omega)]
      refine (b9.2.2.2.2 p x y).trans ⟨fun ⟨i, q1, q2, q3⟩ => ⟨i, q1, q2, by rw [e 12 _ (by omega) (by omega)]; exact q3⟩, fun ⟨i, q1, q2, q3⟩ => ⟨i, q1, q2, by rw [e 12 _ (by omega) (by omega)] at q3; exact q3⟩⟩
theorem c_register (hb : bOK Θ 13 b h) (hd : DV D V) (I : Inv G H M V) {l d t : Int} (i1 : -2147483648 ≤ l) (i2 : l < 2147483648) (i3 : -2147483648 ≤ d) (i4 : d < 2147483648) (i5 : -2147483648 ≤ t) (i6 : t < 2147483648) : if ¬ ((5 ≤ l ∧ l ≤ 30) ∧ (5 ≤ d ∧ d ≤ 80) ∧ (0 ≤ t ∧ t ≤ 99)) then P_L_register Θ N (HD Θ b D h) (b + 1) (J l) (J d) (J t) = some (.inr 11, HD Θ b D (h ++ [oB 11 []])) else if 8 ≤ V 4 then P_L_register Θ N (HD Θ b D h) (b + 1) (J l) (J d) (J t) = some (.inr 12, HD Θ b D (h ++ [oB 12 []])) else ∃ D', P_L_register Θ N (HD Θ b D h) (b + 1) (J l) (J d) (J t) = some (.inl (J (V 5)), HD Θ b D' h) ∧ DV D' (addV V l d t) := by
  have h4 := I.h4
  by_cases c : (5 ≤ l ∧ l ≤ 30) ∧ (5 ≤ d ∧ d ≤ 80) ∧ (0 ≤ t ∧ t ≤ 99)
  · rw [if_neg (fun x => x c)]
    by_cases c2 : 8 ≤ V 4
    · rw [if_pos c2]
      unfold P_L_register
      rw [if_neg (by rw [J_lt] <;> omega), if_neg (by rw [J_lt] <;> omega), if_neg (by rw [J_lt] <;> omega), if_neg (by rw [J_lt] <;> omega), if_neg (by rw [J_0, J_lt] <;> omega), if_pos (by rw [J_le] <;> omega), v_S4 hb hd, bo_some, if_neg (by rw [J_lt] <;> omega), xp, BK_app hb]
    · rw [if_neg c2]
      have hr := hd.rlt (k := V 4) (by omega) (by omega)
      refine ⟨_, ?_, hd.add I (by omega) (l := l) (d := d) (t := t)⟩
      unfold P_L_register
      rw [if_neg (by rw [J_lt] <;> omega), if_neg (by rw [J_lt] <;> omega), if_neg (by rw [J_lt] <;> omega), if_neg (by rw [J_lt] <;> omega), if_neg (by rw [J_0, J_lt] <;> omega), if_pos (by rw [J_le] <;> omega), v_S4 hb hd, bo_some, if_pos (by rw [J_lt] <;> omega), v_S5 hb hd, bo_some, l_A0 hb, bo_some, bo_some, l_Q hb (by omega) (by omega), bo_some, s_O hb hr]
      unfold P_S_begin
      simp (disch := omega) only [s_W0 hb hr, s_W1 hb hr, s_W2 hb hr, s_W3 hb hr, s_W4 hb hr, s_W5 hb hr, s_W6 hb hr, s_W7 hb hr, s_W8 hb hr, bo_some, bc_some, l_I1 hb, l_I2 hb, l_W1 hb, l_W2 hb, up2_ne, up2_nj, J_add, hd.sc.2.2.2.2.1, hd.sc.2.2.2.2.2.1]
  · rw [if_pos c]
    unfold P_L_register
    rw [xp, BK_app hb]
    by_cases c1 : l < 5
    · rw [if_pos (by rw [J_lt] <;> omega)]
    · rw [if_neg (by rw [J_lt] <;> omega)]
      by_cases c2 : 30 < l
      · rw [if_pos (by rw [J_lt] <;> omega)]
      · rw [if_neg (by rw [J_lt] <;> omega)]
        by_cases c3 : d < 5
        · rw [if_pos (by rw [J_lt] <;> omega)]
        · rw [if_neg (by rw [J_lt] <;> omega)]
          by_cases c5 : 80 < d
          · rw [if_pos (by rw [J_lt] <;> omega)]
          · rw [if_neg (by rw [J_lt] <;> omega)]
            by_cases c6 : t < 0
            · rw [if_pos (by rw [J_0, J_lt] <;> omega)]
            · rw [if_neg (by rw [J_0, J_lt] <;> omega), if_neg (by rw [J_le] <;> omega)]
/-! a ship goes: its row moves behind the others -/
def mvr (D : Nat → Int → Int) (w j : Int) : Nat → Int → Int := fun a k => if a = 2 then (if k < w then D 2 k else if k < j then D 2 (k + 1) else if k = j then D 2 w else D 2 k) else D a k
theorem mvr_o {w j k : Int} {a : Nat} (ha : a ≠ 2) : mvr D w j a k = D a k := by unfold mvr; rw [if_neg ha]
theorem mvr_2 {w j k : Int} : mvr D w j 2 k = if k < w then D 2 k else if k < j then D 2 (k + 1) else if k = j then D 2 w else D 2 k := by unfold mvr; rw [if_pos rfl]
theorem mvr_w {w : Int} : mvr D w w = D := by
  funext a k
  by_cases ha : a = 2
  · subst ha
    rw [mvr_2]
    by_cases c : k < w
    · rw [if_pos c]
    · rw [if_neg c, if_neg c]
      by_cases e : k = w
      · rw [if_pos e, e]
      · rw [if_neg e]
  · rw [mvr_o ha]
theorem mvr_S {w j : Int} (h : w ≤ j) : up2 (up2 (mvr D w j) 2 j (D 2 (j + 1))) 2 (j + 1) (D 2 w) = mvr D w (j + 1) := by
  funext a k
  by_cases ha : a = 2
  · subst ha
    rw [up2_at, up2_at, mvr_2, mvr_2]
    by_cases c : k = j + 1
    · rw [if_pos ⟨rfl, c⟩, if_neg (by omega), if_neg (by omega), if_pos c]
    · rw [if_neg (by omega)]
      by_cases e : k = j
      · rw [if_pos ⟨rfl, e⟩, if_neg (by omega), if_pos (by omega), e]
      · rw [if_neg (by omega)]
        by_cases f : k < w
        · rw [if_pos f, if_pos f]
        · rw [if_neg f, if_neg f]
          by_cases g : k < j
          · rw [if_pos g, if_pos (by omega)]
          · rw [if_neg g, if_neg e, if_neg (by omega), if_neg c]
  · rw [up2_ne ha, up2_ne ha, mvr_o ha, mvr_o ha]
theorem c_move_L (hb : bOK Θ 13 b h) (hd : DV D V) (I : Inv G H M V) {w : Int} (w1 : 0 ≤ w) (w2 : w < V 4) {K : mH → Option (Unit × mH)} : ∀ (r : Nat) (j : Int) (n : Nat), 0 ≤ j → j + 1 + r = V 4 → r < n → P_L_moveToEnd_2 Θ N K (b + 1) (b + 3 + ro D w) n (HD Θ b (if j ≤ w then D else mvr D w j) h) (J j) = K (HD Θ b (mvr D w (V 4 - 1)) h) := by
  intro r
  have h4 := I.h4
  have s11 := hd.sc.2.2.2.2.1
  induction r with
  | zero =>
    intro j n h0 hj hn
    obtain ⟨n, rfl⟩ : ∃ n', n = n' + 1 := ⟨n - 1, by omega⟩
    have e4 : (if j ≤ w then D else mvr D w j) 1 1 = V 4 := by split; exact s11; rw [mvr_o (by omega)]; exact s11
    rw [E_L_moveToEnd_2, B_L_moveToEnd_2, l_I1 hb, bo_some, e4, J_add, if_pos (by rw [J_le] <;> omega)]
    have ej : j = V 4 - 1 := by omega
    split
    · have : w = j := by omega
      rw [← ej, ← this, mvr_w]
    · rw [ej]
  | succ r ih =>
    intro j n h0 hj hn
    obtain ⟨n, rfl⟩ : ∃ n', n = n' + 1 := ⟨n - 1, by omega⟩
    have ih' := ih (j + 1) n (by omega) (by omega) (by omega)
    have e4 : (if j ≤ w then D else mvr D w j) 1 1 = V 4 := by split; exact s11; rw [mvr_o (by omega)]; exact s11
    rw [E_L_moveToEnd_2, B_L_moveToEnd_2, l_I1 hb, bo_some, e4, J_add, if_neg (by rw [J_le] <;> omega), l_A0 hb, bo_some, l_Q hb h0 (by omega), bo_some, jn_eq]
    by_cases c : j < w
    · rw [if_pos (show j ≤ w by omega)] at *
      rw [if_pos (show j + 1 ≤ w by omega)] at ih'
      rw [if_neg (fun e => by have := hd.inj h0 (by omega) w1 (by omega) (Nat.add_left_cancel e); omega)]
      exact ih'
    · have ej : (if j ≤ w then D else mvr D w j) = mvr D w j := by
        by_cases e : j = w
        · rw [if_pos (by omega), e, mvr_w]
        · rw [if_neg (by omega)]
      rw [if_neg (show ¬ j + 1 ≤ w by omega)] at ih'
      rw [ej]
      have rj : ro (mvr D w j) j = ro D w := by unfold ro; rw [mvr_2, if_neg (by omega), if_neg (by omega), if_pos rfl]
      have r1 : ro (mvr D w j) (j + 1) = ro D (j + 1) := by unfold ro; rw [mvr_2, if_neg (by omega), if_neg (by omega), if_neg (by omega)]
      have t1 : ((ro D (j + 1) : Nat) : Int) = D 2 (j + 1) := Int.toNat_of_nonneg (hd.2.1.1 (j + 1) (by omega) (by omega)).1
      have t2 : ((ro D w : Nat) : Int) = D 2 w := Int.toNat_of_nonneg (hd.2.1.1 w w1 (by omega)).1
      rw [if_pos (by rw [rj])]
      simp (disch := omega) only [l_A0 hb, bo_some, l_Q hb, J_add, r1]
      rw [l_P hb (hd.rlt (by omega) (by omega)) h0 (by omega), bo_some]
      simp (disch := omega) only [l_A0 hb, bo_some]
      rw [l_P hb (hd.rlt w1 (by omega)) (by omega) (by omega), bo_some, t1, t2, mvr_S (by omega)]
      exact ih'
theorem c_move (hN : 2000 ≤ N) (hb : bOK Θ 13 b h) (hd : DV D V) (I : Inv G H M V) {w : Int} (w1 : 0 ≤ w) (w2 : w < V 4) : P_L_moveToEnd Θ N (HD Θ b D h) (b + 1) (b + 3 + ro D w) = some ((), HD Θ b (mvr D w (V 4 - 1)) h) := by
  unfold P_L_moveToEnd
  have h4 := I.h4
  have := c_move_L (Θ := Θ) (b := b) (h := h) (N := N) (K := fun h12 => some ((), h12)) hb hd I w1 w2 (V 4 - 1).toNat 0 N (by omega) (by omega) (by omega)
  rw [if_pos w1] at this
  exact this
theorem DV.rmv (hd : DV D V) (I : Inv G H M V) {w : Int} (w1 : 0 ≤ w) (w2 : w < V 4) : DV (up2 (mvr D w (V 4 - 1)) 1 1 (V 4 - 1)) (rmvV V w) := by
  have h4 := I.h4
  have s := hd.sc
  have b9 := hd.bl
  have e : ∀ (a : Nat) (j : Int), a ≠ 2 → a ≠ 1 → up2 (mvr D w (V 4 - 1)) 1 1 (V 4 - 1) a j = D a j := fun a j x y => by rw [up2_ne y, mvr_o x]
  have e2 : ∀ k : Int, up2 (mvr D w (V 4 - 1)) 1 1 (V 4 - 1) 2 k = if k < w then D 2 k else if k < V 4 - 1 then D 2 (k + 1) else if k = V 4 - 1 then D 2 w else D 2 k := fun k => by rw [up2_ne (by omega), mvr_2]
  have e11 : up2 (mvr D w (V 4 - 1)) 1 1 (V 4 - 1) 1 1 = V 4 - 1 := up2_eq
  have e12 : up2 (mvr D w (V 4 - 1)) 1 1 (V 4 - 1) 1 2 = V 5 := by rw [up2_nj (by omega), mvr_o (by omega)]; exact s.2.2.2.2.2.1
  have lo : ∀ j : Int, j < 8 → j ≠ 4 → rmvV V w j = V j := fun j a c => rmvV_lo w1 a c
  have l4 : rmvV V w 4 = V 4 - 1 := up1_eq
  refine ⟨?_, ?_, ?_, ?_⟩
  · rw [e 0 5 (by omega) (by omega), e 0 2 (by omega) (by omega), e 0 3 (by omega) (by omega), e 0 4 (by omega) (by omega), e11, e12, e 0 6 (by omega) (by omega), e 0 7 (by omega) (by omega), lo 0 (by omega) (by omega), lo 1 (by omega) (by omega), lo 2 (by omega) (by omega), lo 3 (by omega) (by omega), l4, lo 5 (by omega) (by omega), lo 6 (by omega) (by omega), lo 7 (by omega) (by omega)]
    exact ⟨s.1, s.2.1, s.2.2.1, s.2.2.2.1, rfl, rfl, s.2.2.2.2.2.2.1, s.2.2.2.2.2.2.2⟩
  · refine ⟨fun k a c => ?_, fun k l a c d f => ?_⟩
    · rw [e2]
      have p1 := hd.2.1.1 k a c
      have p2 := hd.2.1.1 w w1 (by omega)
      split
      · exact p1
      · split
        · exact hd.2.1.1 (k + 1) (by omega) (by omega)
        · split
          · exact p2
          · exact p1
    · rw [e2, e2]
      have q : ∀ x y : Int, 0 ≤ x → x < 8 → 0 ≤ y → y < 8 → D 2 x = D 2 y → x = y := fun x y x1 x2 y1 y2 z => hd.2.1.2 x y x1 x2 y1 y2 z
      intro z
      by_cases k1 : k < w
      · rw [if_pos k1] at z
        by_cases l1 : l < w
        · rw [if_pos l1] at z
          exact q k l a c d f z
        · rw [if_neg l1] at z
          by_cases l2 : l < V 4 - 1
          · rw [if_pos l2] at z
            have := q k (l + 1) a c (by omega) (by omega) z
            omega
          · rw [if_neg l2] at z
            by_cases l3 : l = V 4 - 1
            · rw [if_pos l3] at z
              have := q k w a c w1 (by omega) z
              omega
            · rw [if_neg l3] at z
              exact q k l a c d f z
      · rw [if_neg k1] at z
        by_cases k2 : k < V 4 - 1
        · rw [if_pos k2] at z
          by_cases l1 : l < w
          · rw [if_pos l1] at z
            have := q (k + 1) l (by omega) (by omega) d f z
            omega
          · rw [if_neg l1] at z
            by_cases l2 : l < V 4 - 1
            · rw [if_pos l2] at z
              have := q (k + 1) (l + 1) (by omega) (by omega) (by omega) (by omega) z
              omega
            · rw [if_neg l2] at z
              by_cases l3 : l = V 4 - 1
              · rw [if_pos l3] at z
                have := q (k + 1) w (by omega) (by omega) w1 (by omega) z
                omega
              · rw [if_neg l3] at z
                have := q (k + 1) l (by omega) (by omega) d f z
                omega
        · rw [if_neg k2] at z
          by_cases k3 : k = V 4 - 1
          · rw [if_pos k3] at z
            by_cases l1 : l < w
            · rw [if_pos l1] at z
              have := q w l w1 (by omega) d f z
              omega
            · rw [if_neg l1] at z
              by_cases l2 : l < V 4 - 1
              · rw [if_pos l2] at z
                have := q w (l + 1) w1 (by omega) (by omega) (by omega) z
                omega
              · rw [if_neg l2] at z
                by_cases l3 : l = V 4 - 1
                · omega
                · rw [if_neg l3] at z
                  have := q w l w1 (by omega) d f z
                  omega
          · rw [if_neg k3] at z
            by_cases l1 : l < w
            · rw [if_pos l1] at z
              exact q k l a c d f z
            · rw [if_neg l1] at z
              by_cases l2 : l < V 4 - 1
              · rw [if_pos l2] at z
                have := q k (l + 1) a c (by omega) (by omega) z
                omega
              · rw [if_neg l2] at z
                by_cases l3 : l = V 4 - 1
                · rw [if_pos l3] at z
                  have := q k w a c w1 (by omega) z
                  omega
                · rw [if_neg l3] at z
                  exact q k l a c d f z
  · intro k a c i x y
    rw [l4] at c
    have er : ro (up2 (mvr D w (V 4 - 1)) 1 1 (V 4 - 1)) k = if k < w then ro D k else ro D (k + 1) := by
      unfold ro
      rw [e2]
      split
      · rfl
      · first | rfl | rw [if_pos c]
    rw [er, rmvV_fd w1 a (by omega) ⟨x, y⟩]
    by_cases q : k < w
    · rw [if_pos q, if_pos q, e _ _ (by omega) (by omega)]
      exact hd.2.2.1 k a (by omega) i x y
    · rw [if_neg q, if_neg q, e _ _ (by omega) (by omega)]
      exact hd.2.2.1 (k + 1) (by omega) (by omega) i x y
  · rw [blk_ext (V := V) 60 (fun p hp => rmvV_hi (by omega)), e 11 1 (by omega) (by omega)]
    refine ⟨b9.1, b9.2.1, fun j x y => ?_, fun j l x y z => ?_, fun p x y => ?_⟩
    · rw [e 12 _ (by omega) (by omega)]
      exact b9.2.2.1 j x y
    · rw [e 12 _ (by omega) (by omega), e 12 _ (by omega) (by omega)]
      exact b9.2.2.2.1 j l x y z
    · rw [rmvV_hi (by omega)]
      refine (b9.2.2.2.2 p x y).trans ⟨fun ⟨i, q1, q2, q3⟩ => ⟨i, q1, q2, by rw [e 12 _ (by omega) (by omega)]; exact q3⟩, fun ⟨i, q1, q2, q3⟩ => ⟨i, q1, q2, by rw [e 12 _ (by omega) (by omega)] at q3; exact q3⟩⟩
end C5
