/-! blocks, ranks and gaps of the class -/
section C3
variable {Θ : mW} {N b : Nat} {D : Nat → Int → Int} {V : Int → Int} {h : mH} {G H M : Int}
/-- the first place of a position from j on, among r -/
def ixf (D : Nat → Int → Int) (p : Int) : Nat → Int → Int
  | 0, _ => -1
  | r + 1, j => if D 12 j = p then j else ixf D p r (j + 1)
theorem ixf_rng {p : Int} : ∀ (r : Nat) (j : Int), 0 ≤ j → ixf D p r j = -1 ∨ (j ≤ ixf D p r j ∧ ixf D p r j < j + r)
  | 0, _, _ => Or.inl rfl
  | r + 1, j, h => by
    have := ixf_rng (p := p) r (j + 1) (by omega)
    rw [ixf]
    split <;> omega
theorem ixf_none {p : Int} : ∀ (r : Nat) (j : Int), 0 ≤ j → ixf D p r j = -1 → ∀ k : Int, j ≤ k → k < j + r → D 12 k ≠ p
  | 0, j, _, _ => fun k a b => by omega
  | r + 1, j, h, e => fun k a b => by
    rw [ixf] at e
    split at e
    · omega
    · rename_i hc
      by_cases c : k = j
      · rw [c]; exact hc
      · exact ixf_none r (j + 1) (by omega) e k (by omega) (by omega)
theorem ixf_hit {p : Int} : ∀ (r : Nat) (j : Int), 0 ≤ j → ixf D p r j ≠ -1 → D 12 (ixf D p r j) = p
  | 0, j, _, h => absurd rfl h
  | r + 1, j, h0, h => by
    rw [ixf] at h ⊢
    split
    · rename_i hc; exact hc
    · rename_i hc
      rw [if_neg hc] at h
      exact ixf_hit r (j + 1) (by omega) h
theorem ixf_V (hd : DV D V) {p : Int} (h1 : 0 ≤ p) (h2 : p < 60) : ixf D p (D 11 1).toNat 0 ≠ -1 ↔ V (80 + p) = 1 := by
  have b := hd.bl
  rw [b.2.2.2.2 p h1 h2]
  constructor
  · intro c
    have r := ixf_rng (D := D) (p := p) (D 11 1).toNat 0 (by omega)
    exact ⟨_, by omega, by omega, ixf_hit _ 0 (by omega) c⟩
  · rintro ⟨i, a, c, e⟩ x
    exact ixf_none _ 0 (by omega) x i a (by omega) e
theorem DV.c20 (hd : DV D V) (I : Inv G H M V) : 0 ≤ D 11 1 ∧ D 11 1 ≤ 20 := by
  have := hd.bl
  have := I.b20
  omega
theorem c_indexOf_L (hb : bOK Θ 13 b h) (hd : DV D V) (I : Inv G H M V) {p : Int} (i1 : -1000 ≤ p) (i2 : p < 1000) {K : mH → Option (Int32 × mH)} : ∀ (r : Nat) (j : Int) (n : Nat), 0 ≤ j → j + r = D 11 1 → r < n → P_B_indexOf_2 Θ N K (b + 11) (J p) n (HD Θ b D h) (J j) = if ixf D p r j = -1 then K (HD Θ b D h) else some (J (ixf D p r j), HD Θ b D h) := by
  intro r
  have hc := hd.c20 I
  induction r with
  | zero =>
    intro j n h0 hj hn
    obtain ⟨n, rfl⟩ : ∃ n', n = n' + 1 := ⟨n - 1, by omega⟩
    rw [E_B_indexOf_2, B_B_indexOf_2, b_I1 hb, bo_some, if_pos (by rw [J_le] <;> omega), ixf, if_pos rfl]
  | succ r ih =>
    intro j n h0 hj hn
    obtain ⟨n, rfl⟩ : ∃ n', n = n' + 1 := ⟨n - 1, by omega⟩
    have bj := hd.bl.2.2.1 j h0 (by omega)
    rw [E_B_indexOf_2, B_B_indexOf_2, b_I1 hb, bo_some, if_neg (by rw [J_le] <;> omega), b_A0 hb, bo_some, b_a hb h0 (by omega), bo_some, ixf]
    by_cases c : D 12 j = p
    · rw [if_pos (by rw [c]), if_pos c, if_neg (by omega)]
    · rw [if_neg (by rw [J_eq] <;> omega), if_neg c, J_add]
      exact ih (j + 1) n (by omega) (by omega) (by omega)
theorem c_indexOf (hN : 2000 ≤ N) (hb : bOK Θ 13 b h) (hd : DV D V) (I : Inv G H M V) {p : Int} (i1 : -1000 ≤ p) (i2 : p < 1000) : P_B_indexOf Θ N (HD Θ b D h) (b + 11) (J p) = some (J (ixf D p (D 11 1).toNat 0), HD Θ b D h) := by
  unfold P_B_indexOf
  have hc := hd.c20 I
  refine (c_indexOf_L hb hd I i1 i2 (D 11 1).toNat 0 N (by omega) (by omega) (by omega)).trans ?_
  split
  · rename_i e
    rw [e]
  · rfl
theorem c_isAt (hN : 2000 ≤ N) (hb : bOK Θ 13 b h) (hd : DV D V) (I : Inv G H M V) {p : Int} (i1 : 0 ≤ p) (i2 : p < 60) : P_B_isAt Θ N (HD Θ b D h) (b + 11) (J p) = some (J (if V (80 + p) = 1 then 1 else 0), HD Θ b D h) := by
  unfold P_B_isAt
  have hc := hd.c20 I
  have hx := ixf_V hd i1 i2
  have hr := ixf_rng (D := D) (p := p) (D 11 1).toNat 0 (by omega)
  rw [b_O hb, c_indexOf hN hb hd I (by omega) (by omega), bc_some]
  by_cases c : ixf D p (D 11 1).toNat 0 = -1
  · rw [if_pos (by rw [c]), if_neg (fun e => (hx.mpr e) c)]
  · rw [if_neg (by rw [J_eq] <;> omega), if_pos (hx.mp c)]
theorem c_byBlocks_L (hb : bOK Θ 13 b h) (hd : DV D V) (I : Inv G H M V) {k : Int} (k1 : 0 ≤ k) (k2 : k < V 4) {K : mH → Int32 → Option (Int32 × mH)} : ∀ (r j n : Nat), (j : Int) + r = D 11 1 → r < n → P_B_beneathByBlocks_4 Θ N K (b + 11) (b + 3 + ro D k) n (HD Θ b D h) (J (cbk D (cvb V k) j)) (J j) = K (HD Θ b D h) (J (cbk D (cvb V k) (D 11 1).toNat)) := by
  intro r
  have h4 := I.h4
  have hc := hd.c20 I
  induction r with
  | zero =>
    intro j n hj hn
    obtain ⟨n, rfl⟩ : ∃ n', n = n' + 1 := ⟨n - 1, by omega⟩
    rw [E_B_beneathByBlocks_4, B_B_beneathByBlocks_4, b_I1 hb, bo_some, if_pos (by rw [J_le] <;> omega), show (D 11 1).toNat = j by omega]
  | succ r ih =>
    intro j n hj hn
    obtain ⟨n, rfl⟩ : ∃ n', n = n' + 1 := ⟨n - 1, by omega⟩
    have ih' := ih (j + 1) n (by omega) (by omega)
    have bj := hd.bl.2.2.1 j (by omega) (by omega)
    rw [cbk] at ih'
    rw [E_B_beneathByBlocks_4, B_B_beneathByBlocks_4, b_I1 hb, bo_some, if_neg (by rw [J_le] <;> omega), b_A0 hb, bo_some, b_a hb (by omega) (by omega), bo_some, v_O hb hd (by omega) (by omega), c_overlaps hb hd I k1 k2 (by omega) (by omega) (by omega) (by omega), bc_some, jn_eq, ← ih']
    by_cases c : fd V k 4 ≠ -1 ∧ fd V k 4 < D 12 j + 1 ∧ D 12 j < fd V k 4 + fd V k 1
    · have c' : cvb V k (D 12 j) = true := by unfold cvb; rw [decide_eq_true_eq]; exact c
      rw [if_pos c, if_pos c', if_neg (by rw [J_0, J_eq] <;> omega)]
      dsimp only
      rw [J_add, J_add]
      rfl
    · have c' : ¬ cvb V k (D 12 j) = true := by unfold cvb; rw [decide_eq_true_eq]; exact c
      rw [if_neg c, if_neg c', if_pos (by rfl), J_add]
      simp
theorem c_byBlocks (hN : 2000 ≤ N) (hb : bOK Θ 13 b h) (hd : DV D V) (I : Inv G H M V) {k : Int} (k1 : 0 ≤ k) (k2 : k < V 4) : P_B_beneathByBlocks Θ N (HD Θ b D h) (b + 11) (b + 3 + ro D k) = some (J (bnt V k 60), HD Θ b D h) := by
  unfold P_B_beneathByBlocks
  have hc := hd.c20 I
  rw [← cbk_bnt hd I k1 k2]
  exact c_byBlocks_L (K := fun h8 u9 => some (u9, h8)) hb hd I k1 k2 (D 11 1).toNat 0 N (by omega) (by omega)
theorem c_byMetres_L (hN : 2000 ≤ N) (hb : bOK Θ 13 b h) (hd : DV D V) (I : Inv G H M V) {k : Int} (k1 : 0 ≤ k) (k2 : k < V 4) (hk : fd V k 4 ≠ -1) {K : mH → Int32 → Option (Int32 × mH)} : ∀ (r j n : Nat), (j : Int) + r = fd V k 1 → r < n → P_B_beneathByMetres_14 Θ N K (b + 11) (b + 3 + ro D k) n (HD Θ b D h) (J (cnr (fun p => decide (V (80 + p) = 1)) (fd V k 4) j)) (J (fd V k 4 + j)) = K (HD Θ b D h) (J (cnr (fun p => decide (V (80 + p) = 1)) (fd V k 4) (fd V k 1).toNat)) := by
  intro r
  have h4 := I.h4
  have s := I.sh k k1 k2
  unfold shOK at s
  induction r with
  | zero =>
    intro j n hj hn
    obtain ⟨n, rfl⟩ : ∃ n', n = n' + 1 := ⟨n - 1, by omega⟩
    rw [E_B_beneathByMetres_14, B_B_beneathByMetres_14, v_O hb hd (by omega) (by omega), c_end hb hd I k1 k2, bc_some, if_pos (by rw [J_le] <;> omega), show (fd V k 1).toNat = j by omega]
  | succ r ih =>
    intro j n hj hn
    obtain ⟨n, rfl⟩ : ∃ n', n = n' + 1 := ⟨n - 1, by omega⟩
    have ih' := ih (j + 1) n (by omega) (by omega)
    rw [cnr] at ih'
    rw [E_B_beneathByMetres_14, B_B_beneathByMetres_14, v_O hb hd (by omega) (by omega), c_end hb hd I k1 k2, bc_some, if_neg (by rw [J_le] <;> omega), b_O hb, c_isAt hN hb hd I (by omega) (by omega), bc_some, jn_eq, ← ih', show fd V k 4 + ((j + 1 : Nat) : Int) = fd V k 4 + j + 1 by omega]
    by_cases c : V (80 + (fd V k 4 + j)) = 1
    · rw [if_pos c, if_neg (by rw [J_0, J_eq] <;> omega), if_pos (show decide (V (80 + (fd V k 4 + j)) = 1) = true by rw [decide_eq_true_eq]; exact c)]
      dsimp only
      rw [J_add, J_add]
    · rw [if_neg c, if_pos (by rfl), if_neg (show ¬ decide (V (80 + (fd V k 4 + j)) = 1) = true by rw [decide_eq_true_eq]; exact c), J_add]
      simp
theorem c_byMetres (hN : 2000 ≤ N) (hb : bOK Θ 13 b h) (hd : DV D V) (I : Inv G H M V) {k : Int} (k1 : 0 ≤ k) (k2 : k < V 4) : P_B_beneathByMetres Θ N (HD Θ b D h) (b + 11) (b + 3 + ro D k) = some (J (if fd V k 4 ≠ -1 then bnt V k 60 else 0), HD Θ b D h) := by
  unfold P_B_beneathByMetres
  have h4 := I.h4
  have s := I.sh k k1 k2
  unfold shOK at s
  rw [v_O hb hd (by omega) (by omega), c_isDocked hb hd I k1 k2, bc_some]
  by_cases c : fd V k 4 = -1
  · have c' : ¬ (fd V k 4 ≠ -1) := by simpa using c
    rw [if_neg c', if_neg c', if_pos (by rfl)]
  · rw [if_pos c, if_pos c, if_neg (by rw [J_0, J_eq] <;> omega), v_I4 hb hd k1 k2 (by omega), bo_some, ← cnr_bnt I k1 k2 c]
    have := c_byMetres_L (N := N) (K := fun h8 u9 => some (u9, h8)) hN hb hd I k1 k2 c (fd V k 1).toNat 0 N (by omega) (by omega)
    rw [show fd V k 4 + ((0 : Nat) : Int) = fd V k 4 by omega] at this
    exact this
theorem bnt_un (I : Inv G H M V) {k : Int} (k1 : 0 ≤ k) (k2 : k < V 4) (h : fd V k 4 = -1) : bnt V k 60 = 0 := by
  have : ∀ n : Nat, bnt V k n = 0 := by
    intro n
    induction n with
    | zero => rfl
    | succ n ih =>
      rw [bnt, ih, if_neg (fun e => by have := (at_iff I k1 k2).mp e; unfold cov at this; omega)]
      rfl
  exact this 60
theorem c_waysAgree_L (hN : 2000 ≤ N) (hb : bOK Θ 13 b h) (hd : DV D V) (I : Inv G H M V) {K : mH → Option (Int32 × mH)} : ∀ (r : Nat) (j : Int) (n : Nat), 0 ≤ j → j + r = V 4 → r < n → P_B_waysAgree_2 Θ N K (b + 11) (b + 1) n (HD Θ b D h) (J j) = K (HD Θ b D h) := by
  intro r
  have h4 := I.h4
  induction r with
  | zero =>
    intro j n h0 hj hn
    obtain ⟨n, rfl⟩ : ∃ n', n = n' + 1 := ⟨n - 1, by omega⟩
    rw [E_B_waysAgree_2, B_B_waysAgree_2, v_S4 hb hd, bo_some, if_pos (by rw [J_le] <;> omega)]
  | succ r ih =>
    intro j n h0 hj hn
    obtain ⟨n, rfl⟩ : ∃ n', n = n' + 1 := ⟨n - 1, by omega⟩
    rw [E_B_waysAgree_2, B_B_waysAgree_2, v_S4 hb hd, bo_some, if_neg (by rw [J_le] <;> omega), l_A0 hb, bo_some, l_Q hb h0 (by omega), bo_some, b_O hb, c_byMetres hN hb hd I h0 (by omega), bc_some]
    simp (disch := omega) only [l_A0 hb, bo_some, l_Q hb, b_O hb, c_byBlocks hN hb hd I, bc_some, J_add]
    have e : (if fd V j 4 ≠ -1 then bnt V j 60 else 0) = bnt V j 60 := by
      split
      · rfl
      · rename_i c
        rw [bnt_un I h0 (by omega) (by simpa using c)]
    rw [e, if_pos rfl]
    exact ih (j + 1) n (by omega) (by omega) (by omega)
theorem c_waysAgree (hN : 2000 ≤ N) (hb : bOK Θ 13 b h) (hd : DV D V) (I : Inv G H M V) : P_B_waysAgree Θ N (HD Θ b D h) (b + 11) (b + 1) = some (J 1, HD Θ b D h) := by
  unfold P_B_waysAgree
  have h4 := I.h4
  exact c_waysAgree_L (K := fun h8 => some (J 1, h8)) hN hb hd I (V 4).toNat 0 N (by omega) (by omega) (by omega)
theorem c_ranked_L (hN : 2000 ≤ N) (hb : bOK Θ 13 b h) (hd : DV D V) (I : Inv G H M V) {x : Int} (x1 : -2147483648 ≤ x) (x2 : x < 2147483648) {K : mH → Option (Option Nat × mH)} : ∀ (r : Nat) (j : Int) (n : Nat), 0 ≤ j → j + r = V 4 → r < n → P_L_ranked_2 Θ N K (b + 1) (J x) n (HD Θ b D h) (J j) = if rkx V x r j = -1 then K (HD Θ b D h) else some (some (b + 3 + ro D (rkx V x r j)), HD Θ b D h) := by
  intro r
  have h4 := I.h4
  induction r with
  | zero =>
    intro j n h0 hj hn
    obtain ⟨n, rfl⟩ : ∃ n', n = n' + 1 := ⟨n - 1, by omega⟩
    rw [E_L_ranked_2, B_L_ranked_2, v_S4 hb hd, bo_some, if_pos (by rw [J_le] <;> omega), rkx, if_pos rfl]
  | succ r ih =>
    intro j n h0 hj hn
    obtain ⟨n, rfl⟩ : ∃ n', n = n' + 1 := ⟨n - 1, by omega⟩
    have ba := ahd_le (V := V) (a := j) (mny V)
    have hm : (mny V : Int) = V 4 := by unfold mny; omega
    rw [E_L_ranked_2, B_L_ranked_2, v_S4 hb hd, bo_some, if_neg (by rw [J_le] <;> omega), l_A0 hb, bo_some, l_Q hb h0 (by omega), bo_some, l_O hb, c_rankOf hN hb hd I h0 (by omega), bc_some, rkx]
    by_cases c : ahd V j (mny V) = x
    · rw [if_pos (by rw [c]), if_pos c, l_A0 hb, bo_some, l_Q hb h0 (by omega), bo_some, if_neg (by omega)]
    · rw [if_neg (by rw [J_eq] <;> omega), if_neg c, J_add]
      exact ih (j + 1) n (by omega) (by omega) (by omega)
theorem c_ranked (hN : 2000 ≤ N) (hb : bOK Θ 13 b h) (hd : DV D V) (I : Inv G H M V) {x : Int} (x1 : -2147483648 ≤ x) (x2 : x < 2147483648) : P_L_ranked Θ N (HD Θ b D h) (b + 1) (J x) = if rkx V x (mny V) 0 = -1 then some (none, HD Θ b D h) else some (some (b + 3 + ro D (rkx V x (mny V) 0)), HD Θ b D h) := by
  unfold P_L_ranked
  have h4 := I.h4
  exact c_ranked_L hN hb hd I x1 x2 (mny V) 0 N (by omega) (by unfold mny; omega) (by unfold mny; omega)
theorem c_gapPos_L (hN : 2000 ≤ N) (hb : bOK Θ 13 b h) (hd : DV D V) (I : Inv G H M V) {l : Int} (l1 : 1 ≤ l) (l2 : l ≤ 60) {K : mH → Option (Int32 × mH)} : ∀ (r : Nat) (a : Int) (n : Nat), 0 ≤ a → a + l + r = 61 → r < n → P_L_gapByPositions_2 Θ N K (b + 1) (J l) n (HD Θ b D h) (J a) = if gpf V l (r + 1) a = -1 then K (HD Θ b D h) else some (J (gpf V l (r + 1) a), HD Θ b D h) := by
  intro r
  have h4 := I.h4
  induction r with
  | zero =>
    intro a n h0 hj hn
    obtain ⟨n, rfl⟩ : ∃ n', n = n' + 1 := ⟨n - 1, by omega⟩
    rw [E_L_gapByPositions_2, B_L_gapByPositions_2, J_add, if_pos (by rw [J_lt] <;> omega), gpf, if_pos (show 60 < a + l by omega), if_pos rfl]
  | succ r ih =>
    intro a n h0 hj hn
    obtain ⟨n, rfl⟩ : ∃ n', n = n' + 1 := ⟨n - 1, by omega⟩
    have f := ovf_fre (V := V) I (a := a) l1
    rw [E_L_gapByPositions_2, B_L_gapByPositions_2, J_add, if_neg (by rw [J_lt] <;> omega), l_O hb, c_overlapping hN hb hd I (by omega) (by omega) (by omega) (by omega), gpf, if_neg (show ¬ 60 < a + l by omega)]
    by_cases c : ovf V a l (mny V) 0 = -1
    · rw [if_pos c, bn_none, if_pos (f.mp c), if_neg (by omega)]
    · rw [if_neg c, bn_some, if_neg (fun e => c (f.mpr e)), J_add]
      exact ih (a + 1) n (by omega) (by omega) (by omega)
theorem c_gapPos (hN : 2000 ≤ N) (hb : bOK Θ 13 b h) (hd : DV D V) (I : Inv G H M V) {l : Int} (l1 : 1 ≤ l) (l2 : l ≤ 60) : P_L_gapByPositions Θ N (HD Θ b D h) (b + 1) (J l) = some (J (gpf V l (62 - l).toNat 0), HD Θ b D h) := by
  unfold P_L_gapByPositions
  refine (c_gapPos_L hN hb hd I l1 l2 (61 - l).toNat 0 N (by omega) (by omega) (by omega)).trans ?_
  rw [show (61 - l).toNat + 1 = (62 - l).toNat by omega]
  split
  · rename_i e
    rw [e]
  · rfl
theorem c_gapShips_L (hN : 2000 ≤ N) (hb : bOK Θ 13 b h) (hd : DV D V) (I : Inv G H M V) {l : Int} (l1 : 1 ≤ l) (l2 : l ≤ 60) {K : mH → Int32 → Option (Int32 × mH)} : ∀ (r : Nat) (j p : Int) (n : Nat), 0 ≤ j → j + r = V 4 → 0 ≤ p → p ≤ 60 → r < n → P_L_gapByShips_4 Θ N K (b + 1) (J l) n (HD Θ b D h) (J p) (J j) = K (HD Θ b D h) (J (gbs V l r p)) := by
  intro r
  have h4 := I.h4
  induction r with
  | zero =>
    intro j p n h0 hj p0 p1 hn
    obtain ⟨n, rfl⟩ : ∃ n', n = n' + 1 := ⟨n - 1, by omega⟩
    rw [E_L_gapByShips_4, B_L_gapByShips_4, v_S4 hb hd, bo_some, if_pos (by rw [J_le] <;> omega), gbs]
  | succ r ih =>
    intro j p n h0 hj p0 p1 hn
    obtain ⟨n, rfl⟩ : ∃ n', n = n' + 1 := ⟨n - 1, by omega⟩
    rw [E_L_gapByShips_4, B_L_gapByShips_4, v_S4 hb hd, bo_some, if_neg (by rw [J_le] <;> omega), l_O hb, c_overlapping hN hb hd I (by omega) (by omega) (by omega) (by omega), gbs]
    by_cases c : ovf V p l (mny V) 0 = -1
    · rw [if_pos c, bn_none, if_pos c, jn_eq, J_add]
      exact ih (j + 1) p n (by omega) (by omega) p0 p1 (by omega)
    · have hit := ovf_hit (V := V) (mny V) 0 c
      have hr := ovf_rng (V := V) (a := p) (l := l) (mny V) 0 (by omega)
      have hm : (mny V : Int) = V 4 := by unfold mny; omega
      rw [if_neg c, bn_some, if_neg c]
      generalize ovf V p l (mny V) 0 = s at c hit hr ⊢
      have sh := I.sh s (by omega) (by omega)
      unfold shOK at sh
      rw [jn_eq, v_O hb hd (by omega) (by omega), c_end hb hd I (by omega) (by omega), bc_some, J_add]
      exact ih (j + 1) _ n (by omega) (by omega) (by omega) (by omega) (by omega)
theorem c_gapShips (hN : 2000 ≤ N) (hb : bOK Θ 13 b h) (hd : DV D V) (I : Inv G H M V) {l : Int} (l1 : 1 ≤ l) (l2 : l ≤ 60) : P_L_gapByShips Θ N (HD Θ b D h) (b + 1) (J l) = some (J (gpf V l (62 - l).toNat 0), HD Θ b D h) := by
  unfold P_L_gapByShips
  have h4 := I.h4
  refine (c_gapShips_L hN hb hd I l1 l2 (mny V) 0 0 N (by omega) (by unfold mny; omega) (by omega) (by omega) (by unfold mny; omega)).trans ?_
  have c0 := cnt_rng (f := ceb V 0) (mny V)
  obtain ⟨a, b9, -, -⟩ := gbs_ok I l1 (mny V) 0 (by omega) (by omega) (fun q x y => by omega) (by omega)
  rw [gap_both I l1 l2, J_add]
  by_cases e : 60 < gbs V l (mny V) 0 + l
  · rw [if_pos e, if_pos (by rw [J_lt] <;> omega)]
  · rw [if_neg e, if_neg (by rw [J_lt] <;> omega)]
theorem c_gapsAgree_L (hN : 2000 ≤ N) (hb : bOK Θ 13 b h) (hd : DV D V) (I : Inv G H M V) {K : mH → Option (Int32 × mH)} : ∀ (r : Nat) (l : Int) (n : Nat), 1 ≤ l → l + r = 61 → r < n → P_L_gapsAgree_2 Θ N K (b + 1) n (HD Θ b D h) (J l) = K (HD Θ b D h) := by
  intro r
  induction r with
  | zero =>
    intro l n h0 hj hn
    obtain ⟨n, rfl⟩ : ∃ n', n = n' + 1 := ⟨n - 1, by omega⟩
    rw [E_L_gapsAgree_2, B_L_gapsAgree_2, if_pos (by rw [J_lt] <;> omega)]
  | succ r ih =>
    intro l n h0 hj hn
    obtain ⟨n, rfl⟩ : ∃ n', n = n' + 1 := ⟨n - 1, by omega⟩
    rw [E_L_gapsAgree_2, B_L_gapsAgree_2, if_neg (by rw [J_lt] <;> omega), l_O hb, c_gapPos hN hb hd I h0 (by omega), bc_some, l_O hb, c_gapShips hN hb hd I h0 (by omega), bc_some, if_pos rfl, J_add]
    exact ih (l + 1) n (by omega) (by omega) (by omega)
theorem c_gapsAgree (hN : 2000 ≤ N) (hb : bOK Θ 13 b h) (hd : DV D V) (I : Inv G H M V) : P_L_gapsAgree Θ N (HD Θ b D h) (b + 1) = some (J 1, HD Θ b D h) := by
  unfold P_L_gapsAgree
  exact c_gapsAgree_L (K := fun h8 => some (J 1, h8)) hN hb hd I 60 1 N (by omega) (by omega) (by omega)
theorem c_overlapI_L (hb : bOK Θ 13 b h) (hd : DV D V) (I : Inv G H M V) {i : Int} (i1 : 0 ≤ i) (i2 : i < V 4) {K : mH → Option (Int32 × mH)} : ∀ (r : Nat) (j : Int) (n : Nat), i < j → j + r = V 4 → r < n → P_L_hasOverlap_14 Θ N K (b + 1) (J i) n (HD Θ b D h) (J j) = K (HD Θ b D h) := by
  intro r
  have h4 := I.h4
  have s := I.sh i i1 i2
  unfold shOK at s
  induction r with
  | zero =>
    intro j n h0 hj hn
    obtain ⟨n, rfl⟩ : ∃ n', n = n' + 1 := ⟨n - 1, by omega⟩
    rw [E_L_hasOverlap_14, B_L_hasOverlap_14, v_S4 hb hd, bo_some, if_pos (by rw [J_le] <;> omega)]
  | succ r ih =>
    intro j n h0 hj hn
    obtain ⟨n, rfl⟩ : ∃ n', n = n' + 1 := ⟨n - 1, by omega⟩
    rw [E_L_hasOverlap_14, B_L_hasOverlap_14, v_S4 hb hd, bo_some, if_neg (by rw [J_le] <;> omega), l_A0 hb, bo_some, l_Q hb i1 (by omega), bo_some, v_O hb hd i1 (by omega), c_isDocked hb hd I i1 i2, bc_some, jn_eq]
    by_cases c : fd V i 4 = -1
    · have c' : ¬ (fd V i 4 ≠ -1) := by simpa using c
      rw [if_neg c', if_pos (by rfl), J_add]
      exact ih (j + 1) n (by omega) (by omega) (by omega)
    · rw [if_pos c, if_neg (by rw [J_0, J_eq] <;> omega)]
      simp (disch := omega) only [l_A0 hb, bo_some, l_Q hb, v_I4 hb hd, v_I1 hb hd, v_O hb hd]
      have p := (I.pr i j i1 h0 (by omega)).2
      have sj := I.sh j (by omega) (by omega)
      unfold shOK at sj
      have hn : ¬ (fd V j 4 ≠ -1 ∧ fd V j 4 < fd V i 4 + fd V i 1 ∧ fd V i 4 < fd V j 4 + fd V j 1) := by
        intro x
        have := p c x.1
        omega
      rw [c_overlaps hb hd I (k := j) (a := fd V i 4) (l := fd V i 1) (by omega) (by omega) (by omega) (by omega) (by omega) (by omega), bc_some, if_neg hn, if_pos (by rfl), J_add]
      exact ih (j + 1) n (by omega) (by omega) (by omega)
theorem c_overlapO_L (hN : 2000 ≤ N) (hb : bOK Θ 13 b h) (hd : DV D V) (I : Inv G H M V) {K : mH → Option (Int32 × mH)} : ∀ (r : Nat) (j : Int) (n : Nat), 0 ≤ j → j + r = V 4 → r < n → P_L_hasOverlap_2 Θ N K (b + 1) n (HD Θ b D h) (J j) = K (HD Θ b D h) := by
  intro r
  have h4 := I.h4
  induction r with
  | zero =>
    intro j n h0 hj hn
    obtain ⟨n, rfl⟩ : ∃ n', n = n' + 1 := ⟨n - 1, by omega⟩
    rw [E_L_hasOverlap_2, B_L_hasOverlap_2, v_S4 hb hd, bo_some, if_pos (by rw [J_le] <;> omega)]
  | succ r ih =>
    intro j n h0 hj hn
    obtain ⟨n, rfl⟩ : ∃ n', n = n' + 1 := ⟨n - 1, by omega⟩
    rw [E_L_hasOverlap_2, B_L_hasOverlap_2, v_S4 hb hd, bo_some, if_neg (by rw [J_le] <;> omega), J_add]
    refine (c_overlapI_L hb hd I h0 (by omega) r (j + 1) N (by omega) (by omega) (by omega)).trans ?_
    exact ih (j + 1) n (by omega) (by omega) (by omega)
theorem c_hasOverlap (hN : 2000 ≤ N) (hb : bOK Θ 13 b h) (hd : DV D V) (I : Inv G H M V) : P_L_hasOverlap Θ N (HD Θ b D h) (b + 1) = some (J 0, HD Θ b D h) := by
  unfold P_L_hasOverlap
  have h4 := I.h4
  exact c_overlapO_L (K := fun h8 => some (J 0, h8)) hN hb hd I (V 4).toNat 0 N (by omega) (by omega) (by omega)
end C3
