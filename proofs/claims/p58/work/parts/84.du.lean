/-! what a dock's changes do to what it says -/
section DU
variable {G H M : Int} {V : Int → Int} {D : Nat → Int → Int}
theorem up1_comm {j k a b : Int} (h : j ≠ k) : up1 (up1 V j a) k b = up1 (up1 V k b) j a := by
  funext i
  rw [up1_at, up1_at, up1_at, up1_at]
  by_cases c : i = k
  · rw [if_pos c, if_neg (by omega), if_pos c]
  · rw [if_neg c, if_neg c]
theorem up1_up1 {k a b : Int} : up1 (up1 V k a) k b = up1 V k b := by
  funext i
  rw [up1_at, up1_at, up1_at]
  split <;> rfl
theorem chg_up {k i v c : Int} (hk : 0 ≤ k) (hi : 0 ≤ i ∧ i ≤ 7) : chg (up1 V (8 + 9 * k + i) v) k c = up1 (chg V k c) (8 + 9 * k + i) v := by
  unfold chg
  rw [fd_up (by omega) (by omega), if_neg (by omega), up1_nj (by omega), up1_comm (j := 8 + 9 * k + i) (k := 8 + 9 * k + 8) (by omega), up1_comm (j := 8 + 9 * k + i) (k := 6) (by omega)]
theorem chg_chg {k a c : Int} (hk : 0 ≤ k) : chg (chg V k a) k c = chg V k (a + c) := by
  have e8 : fd (chg V k a) k 8 = fd V k 8 + a := by rw [chg_fd hk (by omega), if_pos (by omega)]
  have e6 : chg V k a 6 = V 6 + a := up1_eq
  unfold chg at e8 e6 ⊢
  rw [e8, e6, up1_comm (j := 6) (k := 8 + 9 * k + 8) (by omega), up1_up1, up1_up1, show fd V k 8 + a + c = fd V k 8 + (a + c) by omega, show V 6 + a + c = V 6 + (a + c) by omega]
theorem ro_up {a : Nat} {k f v : Int} (ha : a ≠ 2) : ro (up2 D a f v) k = ro D k := by
  unfold ro
  rw [up2_ne (by omega)]
theorem sf_inj {i j : Int} (hi : 0 ≤ i ∧ i ≤ 8) (hj : 0 ≤ j ∧ j ≤ 8) (h : sf i = sf j) : i = j := by
  have hi' : i = 0 ∨ i = 1 ∨ i = 2 ∨ i = 3 ∨ i = 4 ∨ i = 5 ∨ i = 6 ∨ i = 7 ∨ i = 8 := by omega
  have hj' : j = 0 ∨ j = 1 ∨ j = 2 ∨ j = 3 ∨ j = 4 ∨ j = 5 ∨ j = 6 ∨ j = 7 ∨ j = 8 := by omega
  rcases hi' with rfl | rfl | rfl | rfl | rfl | rfl | rfl | rfl | rfl <;> rcases hj' with rfl | rfl | rfl | rfl | rfl | rfl | rfl | rfl | rfl <;> first | rfl | (exfalso; revert h; decide)
theorem DV.put (hd : DV D V) {k i v : Int} (h0 : 0 ≤ k) (h1 : k < V 4) (h2 : V 4 ≤ 8) (hi : 0 ≤ i ∧ i ≤ 8) : DV (up2 D (3 + ro D k) (sf i) v) (up1 V (8 + 9 * k + i) v) := by
  have hr := hd.rlt h0 (by omega)
  have s := hd.sc
  have b := hd.bl
  have e : ∀ (a : Nat) (j : Int), a < 3 ∨ 11 ≤ a → up2 D (3 + ro D k) (sf i) v a j = D a j := fun a j h => up2_ne (by omega)
  have ev : ∀ j : Int, j < 8 ∨ 80 ≤ j → up1 V (8 + 9 * k + i) v j = V j := fun j h => up1_nj (by omega)
  refine ⟨?_, ?_, ?_, ?_⟩
  · rw [e 0 5 (by omega), e 0 2 (by omega), e 0 3 (by omega), e 0 4 (by omega), e 1 1 (by omega), e 1 2 (by omega), e 0 6 (by omega), e 0 7 (by omega), ev 0 (by omega), ev 1 (by omega), ev 2 (by omega), ev 3 (by omega), ev 4 (by omega), ev 5 (by omega), ev 6 (by omega), ev 7 (by omega)]
    exact s
  · refine ⟨fun k a c => ?_, fun k l a c d f => ?_⟩
    · rw [e 2 _ (by omega)]
      exact hd.2.1.1 k a c
    · rw [e 2 _ (by omega), e 2 _ (by omega)]
      exact hd.2.1.2 k l a c d f
  · intro k' a c i' x y
    rw [ev 4 (by omega)] at c
    rw [ro_up (by omega), up2_at, fd_up hi ⟨x, y⟩]
    by_cases f : k' = k ∧ i' = i
    · rw [if_pos f, if_pos (by rw [f.1, f.2]; exact ⟨rfl, rfl⟩)]
    · rw [if_neg f, if_neg ?_]
      · exact hd.2.2.1 k' a c i' x y
      · rintro ⟨g1, g2⟩
        exact f ⟨hd.inj a (by omega) h0 (by omega) (by omega), sf_inj ⟨x, y⟩ hi g2⟩
  · rw [blk_row (by omega) hi.2, e 11 1 (by omega)]
    refine ⟨b.1, b.2.1, fun j x y => ?_, fun j l x y z => ?_, fun p x y => ?_⟩
    · rw [e 12 _ (by omega)]
      exact b.2.2.1 j x y
    · rw [e 12 _ (by omega), e 12 _ (by omega)]
      exact b.2.2.2.1 j l x y z
    · rw [ev (80 + p) (by omega)]
      refine (b.2.2.2.2 p x y).trans ⟨fun ⟨i, q1, q2, q3⟩ => ⟨i, q1, q2, by rw [e 12 _ (by omega)]; exact q3⟩, fun ⟨i, q1, q2, q3⟩ => ⟨i, q1, q2, by rw [e 12 _ (by omega)] at q3; exact q3⟩⟩
theorem DV.u0 (hd : DV D V) {v : Int} : DV (up2 D 0 5 v) (up1 V 0 v) := by
  have s := hd.sc
  have b := hd.bl
  have e : ∀ (a : Nat) (j : Int), a ≠ 0 → up2 D 0 5 v a j = D a j := fun a j h => up2_ne h
  have e0 : ∀ j : Int, j ≠ 5 → up2 D 0 5 v 0 j = D 0 j := fun j h => up2_nj h
  have e9 : up2 D 0 5 v 0 5 = v := up2_eq
  have ev : ∀ j : Int, j ≠ 0 → up1 V 0 v j = V j := fun j h => up1_nj h
  have e8 : up1 V 0 v 0 = v := up1_eq
  refine ⟨?_, ?_, ?_, ?_⟩
  · rw [e9, e0 2 (by omega), e0 3 (by omega), e0 4 (by omega), e 1 1 (by omega), e 1 2 (by omega), e0 6 (by omega), e0 7 (by omega), e8, ev 1 (by omega), ev 2 (by omega), ev 3 (by omega), ev 4 (by omega), ev 5 (by omega), ev 6 (by omega), ev 7 (by omega)]
    exact ⟨rfl, s.2.1, s.2.2.1, s.2.2.2.1, s.2.2.2.2.1, s.2.2.2.2.2.1, s.2.2.2.2.2.2.1, s.2.2.2.2.2.2.2⟩
  · refine ⟨fun k a c => ?_, fun k l a c d f => ?_⟩
    · rw [e 2 _ (by omega)]
      exact hd.2.1.1 k a c
    · rw [e 2 _ (by omega), e 2 _ (by omega)]
      exact hd.2.1.2 k l a c d f
  · intro k' a c i' x y
    rw [ev 4 (by omega)] at c
    rw [ro_up (by omega), e _ _ (by omega), fd_up6 a x (by omega)]
    exact hd.2.2.1 k' a c i' x y
  · rw [blk_low (by omega), e 11 1 (by omega)]
    refine ⟨b.1, b.2.1, fun j x y => ?_, fun j l x y z => ?_, fun p x y => ?_⟩
    · rw [e 12 _ (by omega)]
      exact b.2.2.1 j x y
    · rw [e 12 _ (by omega), e 12 _ (by omega)]
      exact b.2.2.2.1 j l x y z
    · rw [ev (80 + p) (by omega)]
      refine (b.2.2.2.2 p x y).trans ⟨fun ⟨i, q1, q2, q3⟩ => ⟨i, q1, q2, by rw [e 12 _ (by omega)]; exact q3⟩, fun ⟨i, q1, q2, q3⟩ => ⟨i, q1, q2, by rw [e 12 _ (by omega)] at q3; exact q3⟩⟩
theorem DV.u1 (hd : DV D V) {v : Int} : DV (up2 D 0 2 v) (up1 V 1 v) := by
  have s := hd.sc
  have b := hd.bl
  have e : ∀ (a : Nat) (j : Int), a ≠ 0 → up2 D 0 2 v a j = D a j := fun a j h => up2_ne h
  have e0 : ∀ j : Int, j ≠ 2 → up2 D 0 2 v 0 j = D 0 j := fun j h => up2_nj h
  have e9 : up2 D 0 2 v 0 2 = v := up2_eq
  have ev : ∀ j : Int, j ≠ 1 → up1 V 1 v j = V j := fun j h => up1_nj h
  have e8 : up1 V 1 v 1 = v := up1_eq
  refine ⟨?_, ?_, ?_, ?_⟩
  · rw [e0 5 (by omega), e9, e0 3 (by omega), e0 4 (by omega), e 1 1 (by omega), e 1 2 (by omega), e0 6 (by omega), e0 7 (by omega), ev 0 (by omega), e8, ev 2 (by omega), ev 3 (by omega), ev 4 (by omega), ev 5 (by omega), ev 6 (by omega), ev 7 (by omega)]
    exact ⟨s.1, rfl, s.2.2.1, s.2.2.2.1, s.2.2.2.2.1, s.2.2.2.2.2.1, s.2.2.2.2.2.2.1, s.2.2.2.2.2.2.2⟩
  · refine ⟨fun k a c => ?_, fun k l a c d f => ?_⟩
    · rw [e 2 _ (by omega)]
      exact hd.2.1.1 k a c
    · rw [e 2 _ (by omega), e 2 _ (by omega)]
      exact hd.2.1.2 k l a c d f
  · intro k' a c i' x y
    rw [ev 4 (by omega)] at c
    rw [ro_up (by omega), e _ _ (by omega), fd_up6 a x (by omega)]
    exact hd.2.2.1 k' a c i' x y
  · rw [blk_low (by omega), e 11 1 (by omega)]
    refine ⟨b.1, b.2.1, fun j x y => ?_, fun j l x y z => ?_, fun p x y => ?_⟩
    · rw [e 12 _ (by omega)]
      exact b.2.2.1 j x y
    · rw [e 12 _ (by omega), e 12 _ (by omega)]
      exact b.2.2.2.1 j l x y z
    · rw [ev (80 + p) (by omega)]
      refine (b.2.2.2.2 p x y).trans ⟨fun ⟨i, q1, q2, q3⟩ => ⟨i, q1, q2, by rw [e 12 _ (by omega)]; exact q3⟩, fun ⟨i, q1, q2, q3⟩ => ⟨i, q1, q2, by rw [e 12 _ (by omega)] at q3; exact q3⟩⟩
theorem DV.u2 (hd : DV D V) {v : Int} : DV (up2 D 0 3 v) (up1 V 2 v) := by
  have s := hd.sc
  have b := hd.bl
  have e : ∀ (a : Nat) (j : Int), a ≠ 0 → up2 D 0 3 v a j = D a j := fun a j h => up2_ne h
  have e0 : ∀ j : Int, j ≠ 3 → up2 D 0 3 v 0 j = D 0 j := fun j h => up2_nj h
  have e9 : up2 D 0 3 v 0 3 = v := up2_eq
  have ev : ∀ j : Int, j ≠ 2 → up1 V 2 v j = V j := fun j h => up1_nj h
  have e8 : up1 V 2 v 2 = v := up1_eq
  refine ⟨?_, ?_, ?_, ?_⟩
  · rw [e0 5 (by omega), e0 2 (by omega), e9, e0 4 (by omega), e 1 1 (by omega), e 1 2 (by omega), e0 6 (by omega), e0 7 (by omega), ev 0 (by omega), ev 1 (by omega), e8, ev 3 (by omega), ev 4 (by omega), ev 5 (by omega), ev 6 (by omega), ev 7 (by omega)]
    exact ⟨s.1, s.2.1, rfl, s.2.2.2.1, s.2.2.2.2.1, s.2.2.2.2.2.1, s.2.2.2.2.2.2.1, s.2.2.2.2.2.2.2⟩
  · refine ⟨fun k a c => ?_, fun k l a c d f => ?_⟩
    · rw [e 2 _ (by omega)]
      exact hd.2.1.1 k a c
    · rw [e 2 _ (by omega), e 2 _ (by omega)]
      exact hd.2.1.2 k l a c d f
  · intro k' a c i' x y
    rw [ev 4 (by omega)] at c
    rw [ro_up (by omega), e _ _ (by omega), fd_up6 a x (by omega)]
    exact hd.2.2.1 k' a c i' x y
  · rw [blk_low (by omega), e 11 1 (by omega)]
    refine ⟨b.1, b.2.1, fun j x y => ?_, fun j l x y z => ?_, fun p x y => ?_⟩
    · rw [e 12 _ (by omega)]
      exact b.2.2.1 j x y
    · rw [e 12 _ (by omega), e 12 _ (by omega)]
      exact b.2.2.2.1 j l x y z
    · rw [ev (80 + p) (by omega)]
      refine (b.2.2.2.2 p x y).trans ⟨fun ⟨i, q1, q2, q3⟩ => ⟨i, q1, q2, by rw [e 12 _ (by omega)]; exact q3⟩, fun ⟨i, q1, q2, q3⟩ => ⟨i, q1, q2, by rw [e 12 _ (by omega)] at q3; exact q3⟩⟩
theorem DV.u3 (hd : DV D V) {v : Int} : DV (up2 D 0 4 v) (up1 V 3 v) := by
  have s := hd.sc
  have b := hd.bl
  have e : ∀ (a : Nat) (j : Int), a ≠ 0 → up2 D 0 4 v a j = D a j := fun a j h => up2_ne h
  have e0 : ∀ j : Int, j ≠ 4 → up2 D 0 4 v 0 j = D 0 j := fun j h => up2_nj h
  have e9 : up2 D 0 4 v 0 4 = v := up2_eq
  have ev : ∀ j : Int, j ≠ 3 → up1 V 3 v j = V j := fun j h => up1_nj h
  have e8 : up1 V 3 v 3 = v := up1_eq
  refine ⟨?_, ?_, ?_, ?_⟩
  · rw [e0 5 (by omega), e0 2 (by omega), e0 3 (by omega), e9, e 1 1 (by omega), e 1 2 (by omega), e0 6 (by omega), e0 7 (by omega), ev 0 (by omega), ev 1 (by omega), ev 2 (by omega), e8, ev 4 (by omega), ev 5 (by omega), ev 6 (by omega), ev 7 (by omega)]
    exact ⟨s.1, s.2.1, s.2.2.1, rfl, s.2.2.2.2.1, s.2.2.2.2.2.1, s.2.2.2.2.2.2.1, s.2.2.2.2.2.2.2⟩
  · refine ⟨fun k a c => ?_, fun k l a c d f => ?_⟩
    · rw [e 2 _ (by omega)]
      exact hd.2.1.1 k a c
    · rw [e 2 _ (by omega), e 2 _ (by omega)]
      exact hd.2.1.2 k l a c d f
  · intro k' a c i' x y
    rw [ev 4 (by omega)] at c
    rw [ro_up (by omega), e _ _ (by omega), fd_up6 a x (by omega)]
    exact hd.2.2.1 k' a c i' x y
  · rw [blk_low (by omega), e 11 1 (by omega)]
    refine ⟨b.1, b.2.1, fun j x y => ?_, fun j l x y z => ?_, fun p x y => ?_⟩
    · rw [e 12 _ (by omega)]
      exact b.2.2.1 j x y
    · rw [e 12 _ (by omega), e 12 _ (by omega)]
      exact b.2.2.2.1 j l x y z
    · rw [ev (80 + p) (by omega)]
      refine (b.2.2.2.2 p x y).trans ⟨fun ⟨i, q1, q2, q3⟩ => ⟨i, q1, q2, by rw [e 12 _ (by omega)]; exact q3⟩, fun ⟨i, q1, q2, q3⟩ => ⟨i, q1, q2, by rw [e 12 _ (by omega)] at q3; exact q3⟩⟩
theorem DV.u6 (hd : DV D V) {v : Int} : DV (up2 D 0 6 v) (up1 V 6 v) := by
  have s := hd.sc
  have b := hd.bl
  have e : ∀ (a : Nat) (j : Int), a ≠ 0 → up2 D 0 6 v a j = D a j := fun a j h => up2_ne h
  have e0 : ∀ j : Int, j ≠ 6 → up2 D 0 6 v 0 j = D 0 j := fun j h => up2_nj h
  have e9 : up2 D 0 6 v 0 6 = v := up2_eq
  have ev : ∀ j : Int, j ≠ 6 → up1 V 6 v j = V j := fun j h => up1_nj h
  have e8 : up1 V 6 v 6 = v := up1_eq
  refine ⟨?_, ?_, ?_, ?_⟩
  · rw [e0 5 (by omega), e0 2 (by omega), e0 3 (by omega), e0 4 (by omega), e 1 1 (by omega), e 1 2 (by omega), e9, e0 7 (by omega), ev 0 (by omega), ev 1 (by omega), ev 2 (by omega), ev 3 (by omega), ev 4 (by omega), ev 5 (by omega), e8, ev 7 (by omega)]
    exact ⟨s.1, s.2.1, s.2.2.1, s.2.2.2.1, s.2.2.2.2.1, s.2.2.2.2.2.1, rfl, s.2.2.2.2.2.2.2⟩
  · refine ⟨fun k a c => ?_, fun k l a c d f => ?_⟩
    · rw [e 2 _ (by omega)]
      exact hd.2.1.1 k a c
    · rw [e 2 _ (by omega), e 2 _ (by omega)]
      exact hd.2.1.2 k l a c d f
  · intro k' a c i' x y
    rw [ev 4 (by omega)] at c
    rw [ro_up (by omega), e _ _ (by omega), fd_up6 a x (by omega)]
    exact hd.2.2.1 k' a c i' x y
  · rw [blk_low (by omega), e 11 1 (by omega)]
    refine ⟨b.1, b.2.1, fun j x y => ?_, fun j l x y z => ?_, fun p x y => ?_⟩
    · rw [e 12 _ (by omega)]
      exact b.2.2.1 j x y
    · rw [e 12 _ (by omega), e 12 _ (by omega)]
      exact b.2.2.2.1 j l x y z
    · rw [ev (80 + p) (by omega)]
      refine (b.2.2.2.2 p x y).trans ⟨fun ⟨i, q1, q2, q3⟩ => ⟨i, q1, q2, by rw [e 12 _ (by omega)]; exact q3⟩, fun ⟨i, q1, q2, q3⟩ => ⟨i, q1, q2, by rw [e 12 _ (by omega)] at q3; exact q3⟩⟩
theorem DV.u7 (hd : DV D V) {v : Int} : DV (up2 D 0 7 v) (up1 V 7 v) := by
  have s := hd.sc
  have b := hd.bl
  have e : ∀ (a : Nat) (j : Int), a ≠ 0 → up2 D 0 7 v a j = D a j := fun a j h => up2_ne h
  have e0 : ∀ j : Int, j ≠ 7 → up2 D 0 7 v 0 j = D 0 j := fun j h => up2_nj h
  have e9 : up2 D 0 7 v 0 7 = v := up2_eq
  have ev : ∀ j : Int, j ≠ 7 → up1 V 7 v j = V j := fun j h => up1_nj h
  have e8 : up1 V 7 v 7 = v := up1_eq
  refine ⟨?_, ?_, ?_, ?_⟩
  · rw [e0 5 (by omega), e0 2 (by omega), e0 3 (by omega), e0 4 (by omega), e 1 1 (by omega), e 1 2 (by omega), e0 6 (by omega), e9, ev 0 (by omega), ev 1 (by omega), ev 2 (by omega), ev 3 (by omega), ev 4 (by omega), ev 5 (by omega), ev 6 (by omega), e8]
    exact ⟨s.1, s.2.1, s.2.2.1, s.2.2.2.1, s.2.2.2.2.1, s.2.2.2.2.2.1, s.2.2.2.2.2.2.1, rfl⟩
  · refine ⟨fun k a c => ?_, fun k l a c d f => ?_⟩
    · rw [e 2 _ (by omega)]
      exact hd.2.1.1 k a c
    · rw [e 2 _ (by omega), e 2 _ (by omega)]
      exact hd.2.1.2 k l a c d f
  · intro k' a c i' x y
    rw [ev 4 (by omega)] at c
    rw [ro_up (by omega), e _ _ (by omega), fd_up6 a x (by omega)]
    exact hd.2.2.1 k' a c i' x y
  · rw [blk_low (by omega), e 11 1 (by omega)]
    refine ⟨b.1, b.2.1, fun j x y => ?_, fun j l x y z => ?_, fun p x y => ?_⟩
    · rw [e 12 _ (by omega)]
      exact b.2.2.1 j x y
    · rw [e 12 _ (by omega), e 12 _ (by omega)]
      exact b.2.2.2.1 j l x y z
    · rw [ev (80 + p) (by omega)]
      refine (b.2.2.2.2 p x y).trans ⟨fun ⟨i, q1, q2, q3⟩ => ⟨i, q1, q2, by rw [e 12 _ (by omega)]; exact q3⟩, fun ⟨i, q1, q2, q3⟩ => ⟨i, q1, q2, by rw [e 12 _ (by omega)] at q3; exact q3⟩⟩
end DU
section C4
variable {Θ : mW} {N b : Nat} {D : Nat → Int → Int} {V : Int → Int} {h : mH} {G H M : Int}
theorem c_sea {t : Int} (h1 : 0 ≤ t) (h2 : t ≤ 100000000) : P_E_byFormula Θ N h (J t) = some (J (sea t), h) := by
  unfold P_E_byFormula sea
  simp (disch := omega) only [J_div, J_mul, J_sub, J_add, J_lt]
  rw [show t - t / 12 * 12 = t % 12 by omega]
  by_cases c : t % 12 ≤ 6
  · rw [if_neg (by omega), if_pos c]
  · rw [if_pos (by omega), if_neg c]
theorem c_level (hb : bOK Θ 13 b h) (hd : DV D V) (I : Inv G H M V) {a t : Int} (h1 : 0 ≤ t) (h2 : t ≤ 100000000) (h3 : -1000000 ≤ a) (h4 : a < 1000000) : P_D_levelInHour Θ N (HD Θ b D h) b (J t) (J a) = some (J (lvl V a t), HD Θ b D h) := by
  unfold P_D_levelInHour lvl
  have b2 := I.h2
  have b3 := I.h3
  have b4 := sea_le t
  simp (disch := omega) only [jn_it1, jn_it2, jn_eq, bo_some, bc_some, bx_inl, bx_inr, bn_some, bn_none, v_S2 hb hd, v_S3 hb hd, J_0, J_eq, J_add, J_sub, J_mx, J_mn, c_sea]
  split <;> rfl
theorem c_moveTo (hb : bOK Θ 13 b h) (hd : DV D V) (I : Inv G H M V) {k p : Int} (h1 : 0 ≤ k) (h2 : k < V 4) : ∃ D', P_S_moveTo Θ N (HD Θ b D h) (b + 3 + ro D k) (J p) = some ((), HD Θ b D' h) ∧ DV D' (plcV V k p) ∧ ro D' = ro D := by
  have h4 := I.h4
  have d1 := hd.put (v := p) (i := 4) h1 h2 (by omega) (by omega)
  have r1 : ∀ a, ro (up2 D (3 + ro D k) (sf 4) p) a = ro D a := fun a => ro_up (by omega)
  have d2 := d1.put (k := k) (v := 0) (i := 5) h1 (by rw [up1_nj (by omega)]; exact h2) (by rw [up1_nj (by omega)]; omega) (by omega)
  rw [r1] at d2
  refine ⟨_, ?_, d2, ?_⟩
  · unfold P_S_moveTo
    have hr := hd.rlt h1 (by omega)
    rw [s_W7 hb hr, bo_some, s_W8 hb hr, bo_some]
    rfl
  · funext a
    rw [ro_up (by omega), r1]
theorem c_charge (hb : bOK Θ 13 b h) (hd : DV D V) (h4 : V 4 ≤ 8) {k c : Int} (h1 : 0 ≤ k) (h2 : k < V 4) : ∃ D', P_D_charge Θ N (HD Θ b D h) b (b + 3 + ro D k) (J c) = some ((), HD Θ b D' h) ∧ DV D' (chg V k c) ∧ ro D' = ro D := by
  have d1 := hd.put (v := fd V k 8 + c) (i := 8) h1 h2 (by omega) (by omega)
  have d2 := d1.u6 (v := V 6 + c)
  refine ⟨_, ?_, d2, ?_⟩
  · unfold P_D_charge
    have hr := hd.rlt h1 (by omega)
    have e6 : up2 D (3 + ro D k) 6 (fd V k 8 + c) 0 6 = V 6 := by rw [up2_ne (by omega)]; exact hd.sc.2.2.2.2.2.2.1
    rw [v_I8 hb hd h1 h2 (by omega), bo_some, J_add, s_W6 hb hr, bo_some, d_I6 hb, bo_some, e6, J_add, d_W6 hb, bo_some]
    rfl
  · funext a
    rw [ro_up (by omega), ro_up (by omega)]
theorem c_put (hb : bOK Θ 13 b h) (hd : DV D V) (I : Inv G H M V) {k i v : Int} (h1 : 0 ≤ k) (h2 : k < V 4) (hi : 0 ≤ i ∧ i ≤ 8) : DV (up2 D (3 + ro D k) (sf i) v) (up1 V (8 + 9 * k + i) v) ∧ ro (up2 D (3 + ro D k) (sf i) v) = ro D := by
  have h4 := I.h4
  exact ⟨hd.put h1 h2 (by omega) hi, funext fun a => ro_up (by omega)⟩
theorem c_spend (hN : 2000 ≤ N) (hb : bOK Θ 13 b h) (hd : DV D V) (I : Inv G H M V) (hG : G ≤ 80000000) {k : Int} (h1 : 0 ≤ k) (h2 : k < V 4) (hk : fd V k 4 ≠ -1) : ∃ D', P_D_spendHour Θ N (HD Θ b D h) b (b + 3 + ro D k) = some (J (spV V k).1, HD Θ b D' h) ∧ DV D' (spV V k).2 ∧ ro D' = ro D := by
  have h4 := I.h4
  have v1 := I.h1
  have s := I.sh k h1 h2
  have v6 := I.v6
  have bn := I.bnt0 k
  have b8 := I.bill h1 h2
  unfold shOK at s
  have hr := hd.rlt h1 (by omega)
  unfold P_D_spendHour spV
  rw [v_S1 hb hd, bo_some, v_O hb hd h1 (by omega), c_floatsAt hb hd I h1 h2 (by omega) (by omega), bc_some]
  by_cases c1 : fd V k 4 = -1 ∨ fd V k 2 ≤ V 1
  · rw [if_pos c1, if_pos c1, if_neg (by rw [J_0, J_eq] <;> omega)]
    obtain ⟨d1, r1⟩ := c_put hb hd I (v := fd V k 7 + 1) (i := 7) h1 h2 (by omega)
    obtain ⟨D', e, d2, r2⟩ := c_charge (N := N) hb d1 (k := k) (c := 2) (by rw [up1_nj (by omega)]; omega) h1 (by rw [up1_nj (by omega)]; exact h2)
    rw [r1] at e r2
    refine ⟨D', ?_, by rw [← chg_up h1 (by omega)]; exact d2, r2⟩
    rw [v_I7 hb hd h1 h2 (by omega), bo_some, J_add, s_W5 hb hr, bo_some, d_O1 hb]
    exact (congrArg (fun q => bc q _) e).trans rfl
  · rw [if_neg c1, if_neg c1, if_pos (by rfl), d_A1 hb, bo_some, b_O hb, c_byBlocks hN hb hd I h1 h2, bc_some]
    by_cases c2 : bnt V k 60 < 2
    · rw [if_pos c2, if_neg (by rw [J_le] <;> omega)]
      obtain ⟨d1, r1⟩ := c_put hb hd I (v := fd V k 6 + 1) (i := 6) h1 h2 (by omega)
      obtain ⟨D', e, d2, r2⟩ := c_charge (N := N) hb d1 (k := k) (c := 2) (by rw [up1_nj (by omega)]; omega) h1 (by rw [up1_nj (by omega)]; exact h2)
      rw [r1] at e r2
      refine ⟨D', ?_, by rw [← chg_up h1 (by omega)]; exact d2, r2⟩
      rw [v_I6 hb hd h1 h2 (by omega), bo_some, J_add, s_W4 hb hr, bo_some, d_O1 hb]
      exact (congrArg (fun q => bc q _) e).trans rfl
    · rw [if_neg c2, if_pos (by rw [J_le] <;> omega), v_I5 hb hd h1 h2 (by omega), bo_some, jn_eq]
      by_cases c3 : fd V k 5 = 1
      · rw [if_pos c3, if_neg (by rw [J_0, J_eq] <;> omega), v_I3 hb hd h1 h2 (by omega), bo_some, J_mn (by omega) (by omega) (by omega) (by omega)]
        obtain ⟨d1, r1⟩ := c_put hb hd I (v := fd V k 3 - min 3 (fd V k 3)) (i := 3) h1 h2 (by omega)
        obtain ⟨D', e, d2, r2⟩ := c_charge (N := N) hb d1 (k := k) (c := 2 + bnt V k 60 + 3 * min 3 (fd V k 3)) (by rw [up1_nj (by omega)]; omega) h1 (by rw [up1_nj (by omega)]; exact h2)
        rw [r1] at e r2
        refine ⟨D', ?_, ?_, r2⟩
        · dsimp only
          rw [v_I3 hb hd h1 h2 (by omega), bo_some, J_sub, s_W3 hb hr, bo_some, d_O1 hb, J_add, J_mul, J_add]
          exact (congrArg (fun q => bc q _) e).trans rfl
        · rw [← chg_up h1 (by omega), chg_chg h1, show 2 + (bnt V k 60 + 3 * min 3 (fd V k 3)) = 2 + bnt V k 60 + 3 * min 3 (fd V k 3) by omega]
          exact d2
      · have c4 : fd V k 5 = 0 := by omega
        rw [if_neg c3, if_pos (by rw [c4]; rfl)]
        obtain ⟨d1, r1⟩ := c_put hb hd I (v := fd V k 3 - 0) (i := 3) h1 h2 (by omega)
        obtain ⟨D', e, d2, r2⟩ := c_charge (N := N) hb d1 (k := k) (c := 2 + bnt V k 60 + 3 * 0) (by rw [up1_nj (by omega)]; omega) h1 (by rw [up1_nj (by omega)]; exact h2)
        rw [r1] at e r2
        refine ⟨D', ?_, ?_, r2⟩
        · dsimp only
          rw [v_I3 hb hd h1 h2 (by omega), bo_some, J_sub, s_W3 hb hr, bo_some, d_O1 hb, J_add, J_mul, J_add]
          exact (congrArg (fun q => bc q _) e).trans rfl
        · rw [← chg_up h1 (by omega), chg_chg h1, show 2 + (bnt V k 60 + 3 * 0) = 2 + bnt V k 60 + 3 * 0 by omega]
          exact d2
theorem wtI_add : ∀ (r : Nat) (a : Int) (V : Int → Int) (j : Int), wtI r a V j = (a + (wtI r 0 V j).1, (wtI r 0 V j).2)
  | 0, a, V, j => by simp [wtI]
  | r + 1, a, V, j => by
    rw [wtI, wtI]
    split
    · rw [wtI_add r (a + (spV V j).1), wtI_add r (0 + (spV V j).1)]
      simp only [Prod.mk.injEq, and_true]
      omega
    · rw [wtI_add r (a + 0), wtI_add r (0 + 0)]
      simp
theorem c_hourI_L (hN : 2000 ≤ N) (hb : bOK Θ 13 b h) {K : mH → Int32 → Option (Int32 × mH)} : ∀ (r : Nat) (G : Int) (D : Nat → Int → Int) (V : Int → Int) (a j : Int) (n : Nat), Inv G H M V → DV D V → G + 31 * r ≤ 80000000 → 0 ≤ j → j + r = V 4 → r < n → ∃ D', P_D_passHour_30 Θ N K b n (HD Θ b D h) (J a) (J j) = K (HD Θ b D' h) (J (wtI r a V j).1) ∧ DV D' (wtI r a V j).2 := by
  intro r
  induction r with
  | zero =>
    intro G D V a j n I hd hG hj hr hn
    obtain ⟨n, rfl⟩ : ∃ n', n = n' + 1 := ⟨n - 1, by omega⟩
    have h4 := I.h4
    exact ⟨D, by rw [E_D_passHour_30, B_D_passHour_30, d_A0 hb, bo_some, v_S4 hb hd, bo_some, if_pos (by rw [J_le] <;> omega), wtI], hd⟩
  | succ r ih =>
    intro G D V a j n I hd hG hj hr hn
    obtain ⟨n, rfl⟩ : ∃ n', n = n' + 1 := ⟨n - 1, by omega⟩
    have h4 := I.h4
    by_cases c : fd V j 4 = -1
    · have c' : ¬ (fd V j 4 ≠ -1) := by simpa using c
      obtain ⟨D', e, d⟩ := ih G D V (a + 0) (j + 1) n I hd (by omega) (by omega) (by omega) (by omega)
      refine ⟨D', ?_, by rw [wtI, if_neg c']; exact d⟩
      rw [E_D_passHour_30, B_D_passHour_30, d_A0 hb, bo_some, v_S4 hb hd, bo_some, if_neg (by rw [J_le] <;> omega), bo_some, l_A0 hb, bo_some, l_Q hb hj (by omega), bo_some, v_O hb hd hj (by omega), c_isDocked hb hd I hj (by omega), bc_some, jn_eq, if_neg c', if_pos (by rfl), wtI, if_neg c', J_add, ← e]
      simp
    · obtain ⟨I2, e2⟩ := spV_inv I (by omega) hj (w := j) (by omega)
      obtain ⟨D1, e1, d1, r1⟩ := c_spend hN hb hd I (by omega) hj (by omega) c
      obtain ⟨D', e, d⟩ := ih (G + 31) D1 (spV V j).2 (a + (spV V j).1) (j + 1) n I2 d1 (by omega) (by omega) (by rw [e2 4 (by omega)]; omega) (by omega)
      refine ⟨D', ?_, by rw [wtI, if_pos c]; exact d⟩
      rw [E_D_passHour_30, B_D_passHour_30, d_A0 hb, bo_some, v_S4 hb hd, bo_some, if_neg (by rw [J_le] <;> omega), bo_some, l_A0 hb, bo_some, l_Q hb hj (by omega), bo_some, v_O hb hd hj (by omega), c_isDocked hb hd I hj (by omega), bc_some, jn_eq, if_pos c, if_neg (by rw [J_0, J_eq] <;> omega)]
      simp (disch := omega) only [d_A0 hb, l_A0 hb, l_Q hb, bo_some, d_O1 hb]
      rw [e1, bc_some, wtI, if_pos c, J_add, J_add]
      exact e
theorem c_passHour (hN : 2000 ≤ N) (hb : bOK Θ 13 b h) (hd : DV D V) (I : Inv G H M V) (hG : G + 248 ≤ 80000000) (hH : H + 1 ≤ 1000000) : ∃ D', P_D_passHour Θ N (HD Θ b D h) b = some (J (wtI (mny V) 0 (hrV V) 0).1, HD Θ b D' h) ∧ DV D' (wtI (mny V) 0 (hrV V) 0).2 := by
  have h4 := I.h4
  have h0 := I.h0
  have h1 := I.h1
  have hm : (mny V : Int) = V 4 := by unfold mny; omega
  have I1 := I.low (c := 0) (v := V 0 + 1) (H' := H + 1) (Or.inl ⟨rfl, by omega, by omega, by omega⟩) (by omega)
  have d1 := hd.u0 (v := V 0 + 1)
  obtain ⟨J1, e4, -⟩ := hrV_inv I (by omega)
  have d2 : DV (up2 (up2 D 0 5 (V 0 + 1)) 0 2 (lvl (up1 V 0 (V 0 + 1)) (V 1) (V 0 + 1))) (hrV V) := d1.u1
  obtain ⟨D', e, d⟩ := c_hourI_L (Θ := Θ) (b := b) (h := h) (K := fun h23 u24 => some (u24, h23)) hN hb (mny V) G _ (hrV V) 0 0 N J1 d2 (by omega) (by omega) (by omega) (by omega)
  refine ⟨D', ?_, d⟩
  unfold P_D_passHour
  have z1 := v_S0 (Θ := Θ) (b := b) (h := h) hb d1
  have z2 := v_S1 (Θ := Θ) (b := b) (h := h) hb d1
  rw [up1_eq] at z1
  rw [up1_nj (by omega)] at z2
  rw [v_S0 hb hd, bo_some, J_add, d_W5 hb, bo_some, z1, bo_some, z2, bo_some, d_O1 hb, c_level hb d1 I1 (by omega) (by omega) (by omega) (by omega), bc_some, d_W2 hb, bo_some]
  exact e
theorem c_letPass_L (hN : 2000 ≤ N) (hb : bOK Θ 13 b h) {t : Int} (ht : t ≤ 48) {K : mH → Int32 → Option ((Int32 ⊕ Nat) × mH)} : ∀ (r : Nat) (G H : Int) (D : Nat → Int → Int) (V : Int → Int) (a j : Int) (n : Nat), Inv G H M V → DV D V → G + 248 * r ≤ 80000000 → H + r ≤ 1000000 → 0 ≤ j → j + r = t → r < n → ∃ D', P_D_letPass_25 Θ N K b (J t) n (HD Θ b D h) (J a) (J j) = K (HD Θ b D' h) (J (wtO r a V).1) ∧ DV D' (wtO r a V).2 := by
  intro r
  induction r with
  | zero =>
    intro G H D V a j n I hd hG hH hj hr hn
    obtain ⟨n, rfl⟩ : ∃ n', n = n' + 1 := ⟨n - 1, by omega⟩
    exact ⟨D, by rw [E_D_letPass_25, B_D_letPass_25, if_pos (by rw [J_le] <;> omega), wtO], hd⟩
  | succ r ih =>
    intro G H D V a j n I hd hG hH hj hr hn
    obtain ⟨n, rfl⟩ : ∃ n', n = n' + 1 := ⟨n - 1, by omega⟩
    have h4 := I.h4
    have hm : (mny V : Int) = V 4 := by unfold mny; omega
    obtain ⟨D1, e1, d1⟩ := c_passHour hN hb hd I (by omega) (by omega)
    obtain ⟨J1, e4, -⟩ := hrV_inv I (by omega)
    obtain ⟨I2, -⟩ := wtI_inv (mny V) G (hrV V) 0 0 J1 (by omega) (by omega) (by omega)
    obtain ⟨D', e, d⟩ := ih (G + 248) (H + 1) D1 (wtI (mny V) 0 (hrV V) 0).2 (a + (wtI (mny V) 0 (hrV V) 0).1) (j + 1) n (I2.mono (by omega) (by omega) (by omega)) d1 (by omega) (by omega) (by omega) (by omega) (by omega)
    refine ⟨D', ?_, by rw [wtO, wtI_add (mny V) a]; exact d⟩
    rw [E_D_letPass_25, B_D_letPass_25, if_neg (by rw [J_le] <;> omega), d_O1 hb, e1, bc_some, J_add, J_add, wtO, wtI_add (mny V) a]
    exact e
theorem c_letPass (hN : 2000 ≤ N) (hb : bOK Θ 13 b h) (hd : DV D V) (I : Inv G H M V) (hG : G ≤ 60000000) (hH : H ≤ 900000) {t : Int} (i1 : -2147483648 ≤ t) (i2 : t < 2147483648) : if 1 ≤ t ∧ t ≤ 48 then ∃ D', P_D_letPass Θ N (HD Θ b D h) b (J t) = some (.inl (J (wtO t.toNat 0 V).1), HD Θ b D' h) ∧ DV D' (wtO t.toNat 0 V).2 else P_D_letPass Θ N (HD Θ b D h) b (J t) = some (.inr 11, HD Θ b D (h ++ [oB 11 []])) := by
  unfold P_D_letPass
  by_cases c : 1 ≤ t ∧ t ≤ 48
  · rw [if_pos c]
    obtain ⟨D', e, d⟩ := c_letPass_L (Θ := Θ) (b := b) (h := h) (N := N) (K := fun h3 u4 => some (.inl u4, h3)) hN hb c.2 t.toNat G H D V 0 0 N I hd (by omega) (by omega) (by omega) (by omega) (by omega)
    exact ⟨D', by rw [if_neg (by rw [J_lt] <;> omega), if_pos (by rw [J_le] <;> omega)]; exact e, d⟩
  · rw [if_neg c, xp, BK_app hb]
    by_cases c2 : t < 1
    · rw [if_pos (by rw [J_lt] <;> omega)]
    · rw [if_neg (by rw [J_lt] <;> omega), if_neg (by rw [J_le] <;> omega)]
end C4
