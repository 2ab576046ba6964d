/-! the hours of the reference; the other changes keep what always holds -/
def spV (V : Int → Int) (w : Int) : Int × (Int → Int) :=
  if fd V w 4 = -1 ∨ fd V w 2 ≤ V 1 then (0, up1 (chg V w 2) (8 + 9 * w + 7) (fd V w 7 + 1))
  else if bnt V w 60 < 2 then (0, up1 (chg V w 2) (8 + 9 * w + 6) (fd V w 6 + 1))
  else if fd V w 5 = 1 then (min 3 (fd V w 3), chg (up1 (chg V w 2) (8 + 9 * w + 3) (fd V w 3 - min 3 (fd V w 3))) w (bnt V w 60 + 3 * min 3 (fd V w 3)))
  else (0, chg (up1 (chg V w 2) (8 + 9 * w + 3) (fd V w 3 - 0)) w (bnt V w 60 + 3 * 0))
def wtI : Nat → Int → (Int → Int) → Int → Int × (Int → Int)
  | 0, a, V, _ => (a, V)
  | r + 1, a, V, j => if fd V j 4 ≠ -1 then wtI r (a + (spV V j).1) (spV V j).2 (j + 1) else wtI r (a + 0) V (j + 1)
def hrV (V : Int → Int) : Int → Int := up1 (up1 V 0 (V 0 + 1)) 1 (lvl (up1 V 0 (V 0 + 1)) (V 1) (V 0 + 1))
def wtO : Nat → Int → (Int → Int) → Int × (Int → Int)
  | 0, a, V => (a, V)
  | r + 1, a, V => wtO r (wtI (mny V) a (hrV V) 0).1 (wtI (mny V) a (hrV V) 0).2
section HI
variable {G H M : Int} {V : Int → Int}
theorem chg_fd {w c k j : Int} (hk : 0 ≤ k) (hj : 0 ≤ j ∧ j ≤ 8) : fd (chg V w c) k j = if k = w ∧ j = 8 then fd V w 8 + c else fd V k j := by
  unfold chg
  rw [fd_up6 hk hj.1 (by omega), fd_up (by omega) hj]
theorem chg_lo {w c j : Int} (hw : 0 ≤ w) (h1 : j < 8) (h2 : j ≠ 6) : chg V w c j = V j := by unfold chg; rw [up1_nj h2, up1_nj (by omega)]
theorem spV_inv (I : Inv G H M V) (hG : G ≤ 80000000) {w : Int} (h1 : 0 ≤ w) (h2 : w < V 4) : Inv (G + 31) H M (spV V w).2 ∧ (∀ j, j < 6 → (spV V w).2 j = V j) := by
  have b := I.bnt0 w
  have s := I.sh w h1 h2
  unfold shOK at s
  have I2 := I.charge (c := 2) h1 h2 (by omega) (by omega)
  have h4 := I.h4
  have e4 : chg V w 2 4 = V 4 := chg_lo h1 (by omega) (by omega)
  have e6 : chg V w 2 6 = V 6 + 2 := up1_eq
  have f3 : fd (chg V w 2) w 3 = fd V w 3 := by rw [chg_fd h1 (by omega), if_neg (by omega)]
  unfold spV
  split
  · exact ⟨(I2.put h1 (by omega) (Or.inr (Or.inr ⟨Or.inr rfl, by omega⟩)) (by omega)).mono (by omega) (by omega) (by omega), fun j hj => by dsimp only; rw [up1_nj (by omega), chg_lo h1 (by omega) (by omega)]⟩
  · split
    · exact ⟨(I2.put h1 (by omega) (Or.inr (Or.inr ⟨Or.inl rfl, by omega⟩)) (by omega)).mono (by omega) (by omega) (by omega), fun j hj => by dsimp only; rw [up1_nj (by omega), chg_lo h1 (by omega) (by omega)]⟩
    · split
      · have I3 := I2.put (i := 3) (v := fd V w 3 - min 3 (fd V w 3)) h1 (by omega) (Or.inl ⟨rfl, by omega, by omega⟩) (by omega)
        have e5 : up1 (chg V w 2) (8 + 9 * w + 3) (fd V w 3 - min 3 (fd V w 3)) 4 = V 4 := by rw [up1_nj (by omega), e4]
        exact ⟨(I3.charge (c := bnt V w 60 + 3 * min 3 (fd V w 3)) h1 (by omega) (by omega) (by omega)).mono (by omega) (by omega) (by omega), fun j hj => by dsimp only; rw [chg_lo h1 (by omega) (by omega), up1_nj (by omega), chg_lo h1 (by omega) (by omega)]⟩
      · have I3 := I2.put (i := 3) (v := fd V w 3 - 0) h1 (by omega) (Or.inl ⟨rfl, by omega, by omega⟩) (by omega)
        have e5 : up1 (chg V w 2) (8 + 9 * w + 3) (fd V w 3 - 0) 4 = V 4 := by rw [up1_nj (by omega), e4]
        exact ⟨(I3.charge (c := bnt V w 60 + 3 * 0) h1 (by omega) (by omega) (by omega)).mono (by omega) (by omega) (by omega), fun j hj => by dsimp only; rw [chg_lo h1 (by omega) (by omega), up1_nj (by omega), chg_lo h1 (by omega) (by omega)]⟩
theorem wtI_inv : ∀ (r : Nat) (G : Int) (V : Int → Int) (a j : Int), Inv G H M V → G + 31 * r ≤ 80000000 → 0 ≤ j → j + r ≤ V 4 → Inv (G + 31 * r) H M (wtI r a V j).2 ∧ (∀ i, i < 6 → (wtI r a V j).2 i = V i)
  | 0, G, V, a, j, I, _, _, _ => ⟨I.mono (by omega) (by omega) (by omega), fun i hi => rfl⟩
  | r + 1, G, V, a, j, I, hG, h1, h2 => by
    rw [wtI]
    split
    · obtain ⟨I2, e⟩ := spV_inv I (by omega) h1 (w := j) (by omega)
      have := wtI_inv r (G + 31) (spV V j).2 (a + (spV V j).1) (j + 1) I2 (by omega) (by omega) (by rw [e 4 (by omega)]; omega)
      exact ⟨this.1.mono (by omega) (by omega) (by omega), fun i hi => by rw [this.2 i hi, e i hi]⟩
    · have := wtI_inv r G V (a + 0) (j + 1) I (by omega) (by omega) (by omega)
      exact ⟨this.1.mono (by omega) (by omega) (by omega), this.2⟩
theorem hrV_inv (I : Inv G H M V) (hH : H + 1 ≤ 1000000) : Inv G (H + 1) M (hrV V) ∧ hrV V 4 = V 4 ∧ hrV V 0 = V 0 + 1 := by
  have h0 := I.h0
  have h1 := I.h1
  have I1 := I.low (c := 0) (v := V 0 + 1) (H' := H + 1) (Or.inl ⟨rfl, by omega, by omega, by omega⟩) hH
  have b := lvl_rng (V := up1 V 0 (V 0 + 1)) (l := V 1) (t := V 0 + 1) h1.1 h1.2
  refine ⟨I1.low (c := 1) (H' := H + 1) (Or.inr (Or.inl ⟨rfl, b.1, b.2, rfl⟩)) hH, ?_, ?_⟩
  · unfold hrV
    rw [up1_nj (by omega), up1_nj (by omega)]
  · unfold hrV
    rw [up1_nj (by omega), up1_eq]
theorem wtO_inv : ∀ (r : Nat) (G H : Int) (V : Int → Int) (a : Int), Inv G H M V → G + 248 * r ≤ 80000000 → H + r ≤ 1000000 → Inv (G + 248 * r) (H + r) M (wtO r a V).2 ∧ (wtO r a V).2 4 = V 4 ∧ (wtO r a V).2 0 = V 0 + r
  | 0, G, H, V, a, I, _, _ => ⟨I.mono (by omega) (by omega) (by omega), rfl, by simp [wtO]⟩
  | r + 1, G, H, V, a, I, hG, hH => by
    rw [wtO]
    obtain ⟨I1, e4, e0⟩ := hrV_inv I (by omega)
    have h4 := I.h4
    have hm : (mny V : Int) = V 4 := by unfold mny; omega
    obtain ⟨I2, e⟩ := wtI_inv (mny V) G (hrV V) a 0 I1 (by omega) (by omega) (by omega)
    have := wtO_inv r (G + 248) (H + 1) (wtI (mny V) a (hrV V) 0).2 (wtI (mny V) a (hrV V) 0).1 (I2.mono (by omega) (by omega) (by omega)) (by omega) (by omega)
    exact ⟨this.1.mono (by omega) (by omega) (by omega), by rw [this.2.1, e 4 (by omega), e4], by rw [this.2.2, e 0 (by omega), e0]; omega⟩
end HI
section R7
variable {Θ : mW} {N m : Nat} {S : Nat → Int → Int} {h : mH} {G H M : Int}
theorem s_chg (hb : bOK Θ 9 m h) {V : Int → Int} {k c : Int} (h1 : 0 ≤ k) (h2 : k ≤ 7) : P_R_charges Θ N (HR Θ m (ur S V) h) m (J k) (J c) = some ((), HR Θ m (ur S (chg V k c)) h) := by
  have := s_charges (Θ := Θ) (N := N) (S := ur S V) (c := c) hb h1 h2
  simp only [up2_ur, ur_1] at this
  exact this
theorem s_spends (hN : 2000 ≤ N) (hb : bOK Θ 9 m h) {V : Int → Int} (I : Inv G H M V) (hG : G ≤ 80000000) {w : Int} (h1 : 0 ≤ w) (h2 : w < V 4) (hd : fd V w 4 ≠ -1) : P_R_spends Θ N (HR Θ m (ur S V) h) m (J w) = some (J (spV V w).1, HR Θ m (ur S (spV V w).2) h) := by
  have h4 := I.h4
  have I2 := I.charge (c := 2) h1 h2 (by omega) (by omega)
  have hV : OKV (ur S V 1) := I.ok
  have hV2 : OKV (ur S (chg V w 2) 1) := I2.ok
  have s := I.sh w h1 h2
  have b := I.bnt0 w
  have v1 := I.h1
  unfold shOK at s
  have e1 : ur S (chg V w 2) 1 1 = V 1 := by rw [ur_1]; exact chg_lo h1 (by omega) (by omega)
  have ef : ∀ j : Int, 0 ≤ j → j < 8 → fd (ur S (chg V w 2) 1) w j = fd V w j := fun j a c => by rw [ur_1, chg_fd h1 (by omega), if_neg (by omega)]
  have eg : ∀ j : Int, 0 ≤ j → j < 8 → (ur S (chg V w 2) 1) (8 + 9 * w + j) = fd V w j := fun j a c => ef j a c
  unfold P_R_spends spV
  rw [r_O hb, s_beneath hN hb hV h1 (by omega), bc_some, r_O hb, s_chg hb h1 (by omega), bc_some, r_O hb, s_floatsK hb hV2 h1 (by omega), bc_some, ef 4 (by omega) (by omega), ef 2 (by omega) (by omega), e1]
  rw [show fd (ur S V 1) w 4 = fd V w 4 from rfl, show bnt (ur S V 1) w 60 = bnt V w 60 from rfl, if_pos hd]
  by_cases c1 : fd V w 4 = -1 ∨ fd V w 2 ≤ V 1
  · rw [if_pos c1, if_pos c1, if_neg (by rw [J_0, J_eq] <;> omega), r_A0 hb, bo_some, s_place (by omega) (by omega) (by omega) (by omega), bc_some, Int.max_eq_right h1, r_a1 hb (by omega) (by omega), bo_some, J_add, r_w1 hb (by omega) (by omega), bo_some, up2_ur, eg 7 (by omega) (by omega)]
  · rw [if_neg c1, if_neg c1, if_pos (by rfl)]
    by_cases c2 : bnt V w 60 < 2
    · rw [if_pos c2, if_neg (by rw [J_le] <;> omega), r_A0 hb, bo_some, s_place (by omega) (by omega) (by omega) (by omega), bc_some, Int.max_eq_right h1, r_a1 hb (by omega) (by omega), bo_some, J_add, r_w1 hb (by omega) (by omega), bo_some, up2_ur, eg 6 (by omega) (by omega)]
    · rw [if_neg c2, if_pos (by rw [J_le] <;> omega), r_O hb, s_ofK hb h1 (by omega) (by omega) (by omega), bc_some, ef 5 (by omega) (by omega), jn_eq]
      by_cases c3 : fd V w 5 = 1
      · rw [if_pos c3, if_pos (by rw [c3]), r_O hb, s_ofK hb h1 (by omega) (by omega) (by omega), bc_some, ef 3 (by omega) (by omega), J_mn (by omega) (by omega) (by omega) (by omega)]
        dsimp only
        rw [r_A0 hb, bo_some, s_place (by omega) (by omega) (by omega) (by omega), bc_some, Int.max_eq_right h1, r_a1 hb (by omega) (by omega), bo_some, J_sub, r_w1 hb (by omega) (by omega), bo_some, up2_ur, eg 3 (by omega) (by omega), r_O hb, J_mul, J_add, s_chg hb h1 (by omega), bc_some]
      · rw [if_neg c3, if_neg (by rw [J_eq] <;> omega)]
        dsimp only
        rw [r_A0 hb, bo_some, s_place (by omega) (by omega) (by omega) (by omega), bc_some, Int.max_eq_right h1, r_a1 hb (by omega) (by omega), bo_some, J_sub, r_w1 hb (by omega) (by omega), bo_some, up2_ur, eg 3 (by omega) (by omega), r_O hb, J_mul, J_add, s_chg hb h1 (by omega), bc_some]
theorem s_waitsI_L (hN : 2000 ≤ N) (hb : bOK Θ 9 m h) {x1 x3 : Int32} {K : mH → Int32 → Option (Int32 × mH)} : ∀ (r : Nat) (G : Int) (V : Int → Int) (a j : Int) (n : Nat), Inv G H M V → G + 31 * r ≤ 80000000 → 0 ≤ j → j + r = V 4 → r < n → P_R_waits_60 Θ N K m x1 x3 n (HR Θ m (ur S V) h) (J a) (J j) = K (HR Θ m (ur S (wtI r a V j).2) h) (J (wtI r a V j).1) := by
  intro r
  induction r with
  | zero =>
    intro G V a j n I hG hj hr hn
    obtain ⟨n, rfl⟩ : ∃ n', n = n' + 1 := ⟨n - 1, by omega⟩
    have h4 := I.h4
    have e4 : ur S V 1 4 = V 4 := rfl
    rw [E_R_waits_60, B_R_waits_60, r_A0 hb, bo_some, r_a1 hb (by omega) (by omega), bo_some, e4, if_pos (by rw [J_le] <;> omega), wtI]
  | succ r ih =>
    intro G V a j n I hG hj hr hn
    obtain ⟨n, rfl⟩ : ∃ n', n = n' + 1 := ⟨n - 1, by omega⟩
    have h4 := I.h4
    have e4 : ur S V 1 4 = V 4 := rfl
    have hV : OKV (ur S V 1) := I.ok
    rw [E_R_waits_60, B_R_waits_60, r_A0 hb, bo_some, r_a1 hb (by omega) (by omega), bo_some, e4, if_neg (by rw [J_le] <;> omega), r_O hb, s_docK hb hV hj (by omega), bc_some, jn_eq, show fd (ur S V 1) j 4 = fd V j 4 from rfl, wtI]
    by_cases c : fd V j 4 = -1
    · have n1 : ¬ (fd V j 4 ≠ -1) := by simpa using c
      rw [if_neg n1, if_neg n1, if_pos (by rfl)]
      dsimp only
      rw [J_add, J_add]
      exact ih G V (a + 0) (j + 1) n I (by omega) (by omega) (by omega) (by omega)
    · obtain ⟨I2, e⟩ := spV_inv I (by omega) hj (w := j) (by omega)
      rw [if_pos c, if_pos c, if_neg (by rw [J_0, J_eq] <;> omega), r_O hb, s_spends hN hb I (by omega) hj (by omega) c, bc_some]
      dsimp only
      rw [J_add, J_add]
      exact ih (G + 31) (spV V j).2 (a + (spV V j).1) (j + 1) n I2 (by omega) (by omega) (by rw [e 4 (by omega)]; omega) (by omega)
theorem s_waitsO_L (hN : 2000 ≤ N) (hb : bOK Θ 9 m h) {t : Int} (ht : t ≤ 48) {K : mH → Int32 → Option (Int32 × mH)} : ∀ (r : Nat) (G H : Int) (V : Int → Int) (a j : Int) (n : Nat), Inv G H M V → G + 248 * r ≤ 80000000 → H + r ≤ 1000000 → 0 ≤ j → j + r = t → r < n → P_R_waits_20 Θ N K m (J t) n (HR Θ m (ur S V) h) (J a) (J j) = K (HR Θ m (ur S (wtO r a V).2) h) (J (wtO r a V).1) := by
  intro r
  induction r with
  | zero =>
    intro G H V a j n I hG hH hj hr hn
    obtain ⟨n, rfl⟩ : ∃ n', n = n' + 1 := ⟨n - 1, by omega⟩
    rw [E_R_waits_20, B_R_waits_20, if_pos (by rw [J_le] <;> omega), wtO]
  | succ r ih =>
    intro G H V a j n I hG hH hj hr hn
    obtain ⟨n, rfl⟩ : ∃ n', n = n' + 1 := ⟨n - 1, by omega⟩
    have h4 := I.h4
    have h0 := I.h0
    have h1 := I.h1
    have I1 := I.low (c := 0) (v := V 0 + 1) (H' := H + 1) (Or.inl ⟨rfl, by omega, by omega, by omega⟩) (by omega)
    have hV1 : OKV (ur S (up1 V 0 (V 0 + 1)) 1) := I1.ok
    have e0 : ur S V 1 0 = V 0 := rfl
    have e1 : ur S (up1 V 0 (V 0 + 1)) 1 1 = V 1 := by rw [ur_1]; exact up1_nj (by omega)
    have e2 : ur S (up1 V 0 (V 0 + 1)) 1 0 = V 0 + 1 := by rw [ur_1]; exact up1_eq
    rw [E_R_waits_20, B_R_waits_20, if_neg (by rw [J_le] <;> omega), r_A0 hb, bo_some, r_a1 hb (by omega) (by omega), bo_some, e0, J_add, r_w1 hb (by omega) (by omega), bo_some, up2_ur]
    simp (disch := omega) only [r_A0 hb, bo_some, r_a1 hb, e1, e2, r_O hb]
    rw [s_levelThen hb hV1 (by omega) (by omega) (by omega) (by omega), bc_some, r_w1 hb (by omega) (by omega), bo_some, up2_ur]
    show P_R_waits_60 Θ N _ m (J t) (J j) N (HR Θ m (ur S (hrV V)) h) (J a) (J 0) = _
    obtain ⟨J1, e4, -⟩ := hrV_inv I (by omega)
    have hm : (mny V : Int) = V 4 := by unfold mny; omega
    rw [s_waitsI_L hN hb (mny V) G (hrV V) a 0 N J1 (by omega) (by omega) (by omega) (by omega), wtO, J_add]
    obtain ⟨I2, e⟩ := wtI_inv (mny V) G (hrV V) a 0 J1 (by omega) (by omega) (by omega)
    exact ih (G + 248) (H + 1) _ _ (j + 1) n (I2.mono (by omega) (by omega) (by omega)) (by omega) (by omega) (by omega) (by omega) (by omega)
/-- pass -/
def waiR (S : Nat → Int → Int) (t : Int) : Int × (Nat → Int → Int) :=
  if ¬ (1 ≤ t ∧ t ≤ 48) then (0, T13 S 1) else ((wtO t.toNat 0 (S 1)).1, ur (T13 S 0) (wtO t.toNat 0 (S 1)).2)
theorem s_waits (hN : 2000 ≤ N) (hb : bOK Θ 9 m h) (I : Inv G H M (S 1)) (hG : G ≤ 70000000) (hH : H ≤ 900000) {t : Int} (i1 : -2147483648 ≤ t) (i2 : t < 2147483648) : P_R_waits Θ N (HR Θ m S h) m (J t) = some (J (waiR S t).1, HR Θ m (waiR S t).2 h) := by
  unfold P_R_waits waiR
  rw [s_isIn i1 i2 (by omega) (by omega) (by omega) (by omega), bc_some, r_O hb, s_goesT hb it01, bc_some]
  by_cases c : 1 ≤ t ∧ t ≤ 48
  · rw [if_pos c, if_neg (by rw [J_0, J_eq] <;> omega), if_neg (by simpa using c)]
    have e : T13 S (1 - 1) = ur (T13 S 0) (S 1) := by
      have := ur_self (S := T13 S 0)
      rw [T13_1] at this
      rw [this]
      rfl
    rw [e, s_waitsO_L hN hb c.2 t.toNat G H (S 1) 0 0 N I (by omega) (by omega) (by omega) (by omega) (by omega)]
  · rw [if_neg c, if_pos (by rfl), if_pos c]
    rfl
end R7
