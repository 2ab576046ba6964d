/-! the hours of the reference; the other changes keep what always holds -/
def spV (V : Int → Int) (w : Int) : Int × (Int → Int) :=
  if fd V w 4 = -1 ∨ fd V w 2 ≤ V 1 then (0, up1 (chg V w 2) (8 + 9 * w + 7) (fd V w 7 + 1))
  else if bnt V w 60 < 2 then (0, up1 (chg V w 2) (8 + 9 * w + 6) (fd V w 6 + 1))
  else if fd V w 5 = 1 then (min 3 (fd V w 3), chg (up1 (chg V w 2) (8 + 9 * w + 3) (fd V w 3 - min 3 (fd V w 3))) w (bnt V w 60 + 3 * min 3 (fd V w 3)))
  else (0, chg (up1 (chg V w 2) (8 + 9 * w + 3) (fd V w 3 - 0)) w (bnt V w 60 + 3 * 0))
def wtI : Nat → Int → (Int → Int) → Int → Int × (Int → Int)
  | 0, a, V, _ => (a, V)
  | r + 1, a, V, j => if fd V j 4 ≠ -1 then wtI r (a + (spV V j).1) (spV V j).2 (j + 1) else wtI r (a + 0) V (j + 1)
def hrV (V : Int → Int) : Int → Int := up1 (up1 V 0 (V 0 + 1)) 1 (lvl (up1 V 0 (V 0 + 1)) (V 1) (V 0 + 1))
def wtO : Nat → Int → (Int → Int) → Int × (Int → Int)
  | 0, a, V => (a, V)
  | r + 1, a, V => wtO r (wtI (mny V) a (hrV V) 0).1 (wtI (mny V) a (hrV V) 0).2
section HI
variable {G H M : Int} {V : Int → Int}
theorem chg_fd {w c k j : Int} (hk : 0 ≤ k) (hj : 0 ≤ j ∧ j ≤ 8) : fd (chg V w c) k j = if k = w ∧ j = 8 then fd V w 8 + c else fd V k j := by
  unfold chg
  rw [fd_up6 hk hj.1 (by omega), fd_up (by omega) hj]
theorem chg_lo {w c j : Int} (hw : 0 ≤ w) (h1 : j < 8) (h2 : j ≠ 6) : chg V w c j = V j := by unfold chg; rw [up1_nj h2, up1_nj (by omega)]
theorem spV_inv (I : Inv G H M V) (hG : G ≤ 80000000) {w : Int} (h1 : 0 ≤ w) (h2 : w < V 4) : Inv (G + 31) H M (spV V w).2 ∧ (∀ j, j < 6 → (spV V w).2 j = V j) := by
  have b := I.bnt0 w
  have s := I.sh w h1 h2
  unfold shOK at s
  have I2 := I.charge (c := 2) h1 h2 (by omega) (by omega)
  have h4 := I.h4
  have e4 : chg V w 2 4 = V 4 := chg_lo h1 (by omega) (by omega)
  have e6 : chg V w 2 6 = V 6 + 2 := up1_eq
  have f3 : fd (chg V w 2) w 3 = fd V w 3 := by rw [chg_fd h1 (by omega), if_neg (by omega)]
  unfold spV
  split
  · exact ⟨(I2.put h1 (by omega) (Or.inr (Or.inr ⟨Or.inr rfl, by omega⟩)) (by omega)).mono (by omega) (by omega) (by omega), fun j hj => by dsimp only; rw [up1_nj (by omega), chg_lo h1 (by omega) (by omega)]⟩
  · split
    · exact ⟨(I2.put h1 (by omega) (Or.inr (Or.inr ⟨Or.inl rfl, by omega⟩)) (by omega)).mono (by omega) (by omega) (by omega), fun j hj => by dsimp only; rw [up1_nj (by omega), chg_lo h1 (by omega) (by omega)]⟩
    · split
      · have I3 := I2.put (i := 3) (v := fd V w 3 - min 3 (fd V w 3)) h1 (by omega) (Or.inl ⟨rfl, by omega, by omega⟩) (by omega)
        have e5 : up1 (chg V w 2) (8 + 9 * w + 3) (fd V w 3 - min 3 (fd V w 3)) 4 = V 4 := by rw [up1_nj (by omega), e4]
        exact ⟨(I3.charge (c := bnt V w 60 + 3 * min 3 (fd V w 3)) h1 (by omega) (by omega) (by omega)).mono (by omega) (by omega) (by omega), fun j hj => by dsimp only; rw [chg_lo h1 (by omega) (by omega), up1_nj (by omega), chg_lo h1 (by omega) (by omega)]⟩
      · have I3 := I2.put (i := 3) (v := fd V w 3 - 0) h1 (by omega) (Or.inl ⟨rfl, by omega, by omega⟩) (by omega)
        have e5 : up1 (chg V w 2) (8 + 9 * w + 3) (fd V w 3 - 0) 4 = V 4 := by rw [up1_nj (by omega), e4]
        exact ⟨(I3.charge (c := bnt V w 60 + 3 * 0) h1 (by omega) (by omega) (by omega)).mono (by omega) (by omega) (by omega), fun j hj => by dsimp only; rw [chg_lo h1 (by omega) (by omega), up1_nj (by omega), chg_lo h1 (by omega) (by omega)]⟩
theorem wtI_inv : ∀ (r : Nat) (G : Int) (V : Int → Int) (a j : Int), Inv G H M V → G + 31 * r ≤ 80000000 → 0 ≤ j → j + r ≤ V 4 → Inv (G + 31 * r) H M (wtI r a V j).2 ∧ (∀ i, i < 6 → (wtI r a V j).2 i = V i)
  | 0, G, V, a, j, I, _, _, _ => ⟨I.mono (by omega) (by omega) (by omega), fun i hi => rfl⟩
  | r + 1, G, V, a, j, I, hG, h1, h2 => by
    rw [wtI]
    split
    · obtain ⟨I2, e⟩ := spV_inv I (by omega) h1 (w := j) (by omega)
      have := wtI_inv r (G + 31) (spV V j).2 (a + (spV V j).1) (j + 1) I2 (by omega) (by omega) (by rw [e 4 (by omega)]; omega)
      exact ⟨this.1.mono (by omega) (by omega) (by omega), fun i hi => by rw [this.2 i hi, e i hi]⟩
    · have := wtI_inv r G V (a + 0) (j + 1) I (by omega) (by omega) (by omega)
      exact ⟨this.1.mono (by omega) (by omega) (by omega), this.2⟩
theorem hrV_inv (I : Inv G H M V) (hH : H + 1 ≤ 1000000) : Inv G (H + 1) M (hrV V) ∧ hrV V 4 = V 4 ∧ hrV V 0 = V 0 + 1 := by
  have h0 := I.h0
  have h1 := I.h1
  have I1 := I.low (c := 0) (v := V 0 + 1) (H' := H + 1) (Or.inl ⟨rfl, by omega, by omega, by omega⟩) hH
  have b := lvl_rng (V := up1 V 0 (V 0 + 1)) (l := V 1) (t := V 0 + 1) h1.1 h1.2
  refine ⟨I1.low (c := 1) (H' := H + 1) (Or.inr (Or.inl ⟨rfl, b.1, b.2, rfl⟩)) hH, ?_, ?_⟩
  · unfold hrV
    rw [up1_nj (by omega), up1_nj (by omega)]
  · unfold hrV
    rw [up1_nj (by omega), up1_eq]
theorem wtO_inv : ∀ (r : Nat) (G H : Int) (V : Int → Int) (a : Int), Inv G H M V → G + 248 * r ≤ 80000000 → H + r ≤ 1000000 → Inv (G + 248 * r) (H + r) M (wtO r a V).2 ∧ (wtO r a V).2 4 = V 4 ∧ (wtO r a V).2 0 = V 0 + r
  | 0, G, H, V, a, I, _, _ => ⟨I.mono (by omega) (by omega) (by omega), rfl, by simp [wtO]⟩
  | r + 1, G, H, V, a, I, hG, hH => by
    rw [wtO]
    obtain ⟨I1, e4, e0⟩ := hrV_inv I (by omega)
    have h4 := I.h4
    have hm : (mny V : Int) = V 4 := by unfold mny; omega
    obtain ⟨I2, e⟩ := wtI_inv (mny V) G (hrV V) a 0 I1 (by omega) (by omega) (by omega)
    have := wtO_inv r (G + 248) (H + 1) (wtI (mny V) a (hrV V) 0).2 (wtI (mny V) a (hrV V) 0).1 (I2.mono (by omega) (by omega) (by omega)) (by omega) (by omega)
    exact ⟨this.1.mono (by omega) (by omega) (by omega), by rw [this.2.1, e 4 (by omega), e4], by rw [this.2.2, e 0 (by omega), e0]; omega⟩
end HI
section R7
variable {Θ : mW} {N m : Nat} {S : Nat → Int → Int} {h : mH} {G H M : Int}
/-- pass -/
def waiR (S : Nat → Int → Int) (t : Int) : Int × (Nat → Int → Int) :=
  if ¬ (1 ≤ t ∧ t ≤ 48) then (0, T13 S 1) else ((wtO t.toNat 0 (S 1)).1, ur (T13 S 0) (wtO t.toNat 0 (S 1)).2)
end R7
