/-! the class's packing: the most of the table -/
section G4
variable {Θ : mW} {N g b : Nat} {E : Nat → Int → Int} {D : Nat → Int → Int} {V : Int → Int} {h : mH} {G H M : Int}
def bc1 (a : Int32) : Int32 := a - ((ush a (J 1)) &&& (1431655765 : Int32))
def bc2 (a : Int32) : Int32 := (a &&& (858993459 : Int32)) + ((ush a (J 2)) &&& (858993459 : Int32))
def bc3 (a : Int32) : Int32 := (a + (ush a (J 4))) &&& (252645135 : Int32)
def bc4 (a : Int32) : Int32 := a + (ush a (J 8))
def bc5 (a : Int32) : Int32 := (a + (ush a (J 16))) &&& (J 63)
def bcv (a : Int32) : Int32 := bc5 (bc4 (bc3 (bc2 (bc1 a))))
theorem bcv_eq {a : Int32} : P_IN_bitCount Θ N h a = some (bcv a, h) := rfl
theorem bc_all : ∀ s : Fin 256, bcv (J ((s : Nat) : Int)) = J (MT one1 (tb s) 8) := by decide +kernel
theorem c_bits {n s : Nat} (n8 : n ≤ 8) (hs : s < 2 ^ n) : P_IN_bitCount Θ N h (J s) = some (J (MT one1 (tb s) n), h) := by
  have t8 := two8 n8
  rw [bcv_eq, bc_all ⟨s, by omega⟩]
  have e : MT one1 (tb s) 8 = MT one1 (tb s) n := MT_ge 8 n8 (fun k k1 k2 => Nat.testBit_lt_two_pow (Nat.lt_of_lt_of_le hs (Nat.pow_le_pow_right (by omega) k1)))
  rw [e]
theorem MT_one : ∀ (n : Nat) (σ : Nat → Bool), 0 ≤ MT one1 σ n ∧ MT one1 σ n ≤ n
  | 0, σ => by simp [MT]
  | n + 1, σ => by
    have := MT_one n σ
    have e : one1 (n : Int) = 1 := rfl
    rw [MT, e]
    split <;> omega
theorem MT_60 {f : Int → Int} {σ : Nat → Bool} {B : Int} (hB : 0 ≤ B) : ∀ n : Nat, (∀ k : Nat, k < n → 0 ≤ f k ∧ f k ≤ B) → 0 ≤ MT f σ n ∧ MT f σ n ≤ B * n
  | 0, _ => by simp [MT]
  | n + 1, h => by
    have := MT_60 (σ := σ) hB n (fun k hk => h k (by omega))
    have := h n (by omega)
    have e : B * ((n + 1 : Nat) : Int) = B * n + B := by rw [show ((n + 1 : Nat) : Int) = (n : Int) + 1 by omega, Int.mul_add, Int.mul_one]
    rw [MT, e]
    split <;> omega
/-- the most among the first sets -/
def mxs (row val : Int → Int) : Nat → Int
  | 0 => 0
  | s + 1 => if row s = 1 then max (mxs row val s) (val s) else mxs row val s
theorem mxs_ge {row val : Int → Int} : ∀ n : Nat, 0 ≤ mxs row val n
  | 0 => by simp [mxs]
  | n + 1 => by
    have := mxs_ge (row := row) (val := val) n
    rw [mxs]
    split <;> omega
theorem mxs_ub {row val : Int → Int} : ∀ (n s : Nat), s < n → row s = 1 → val s ≤ mxs row val n
  | 0, s, h, _ => by omega
  | n + 1, s, h, e => by
    rw [mxs]
    by_cases c : s = n
    · subst c
      rw [if_pos e]
      omega
    · have := mxs_ub (row := row) (val := val) n s (by omega) e
      split <;> omega
theorem mxs_at {row val : Int → Int} (h0 : row 0 = 1) (hv : val 0 = 0) : ∀ n : Nat, 0 < n → ∃ s : Nat, s < n ∧ row s = 1 ∧ val s = mxs row val n
  | 0, h => by omega
  | n + 1, _ => by
    by_cases z : n = 0
    · subst z
      refine ⟨0, by omega, h0, ?_⟩
      rw [mxs, mxs, show ((0 : Nat) : Int) = 0 from rfl, if_pos h0, hv]
      rfl
    · obtain ⟨s, a, b, c⟩ := mxs_at h0 hv n (by omega)
      rw [mxs]
      split
      · rename_i e
        by_cases d : mxs row val n < val n
        · exact ⟨n, by omega, e, by omega⟩
        · exact ⟨s, by omega, b, by omega⟩
      · exact ⟨s, by omega, b, c⟩
theorem mxs_le {row val : Int → Int} {B : Int} (hB : 0 ≤ B) : ∀ n : Nat, (∀ s : Nat, s < n → val s ≤ B) → mxs row val n ≤ B
  | 0, _ => by simpa [mxs] using hB
  | n + 1, h => by
    have := mxs_le (row := row) hB n (fun s hs => h s (by omega))
    have := h n (by omega)
    rw [mxs]
    split <;> omega
theorem mxs_ext {row val val' : Int → Int} : ∀ n : Nat, (∀ s : Nat, s < n → val s = val' s) → mxs row val n = mxs row val' n
  | 0, _ => rfl
  | n + 1, h => by rw [mxs, mxs, mxs_ext n (fun s hs => h s (by omega)), h n (by omega)]
def cntf (n : Nat) (s : Int) : Int := MT one1 (tb s.toNat) n
def mtf (f : Int → Int) (n : Nat) (s : Int) : Int := MT f (tb s.toNat) n
theorem mxs_isC {f : Int → Int} {n : Nat} {gs : List Int} {row : Int → Int} (hf : ∀ j : Nat, j < n → 0 ≤ f j) (hg : ∀ g, g ∈ gs → 0 ≤ g) (h : TB f n gs row) : isC (wl f n 0) gs (mxs row (cntf n) (2 ^ n)) := by
  obtain ⟨s, a, b, c⟩ := mxs_at (row := row) (val := cntf n) (TB_row0 hg h) (by unfold cntf; exact MT_emp n (fun k _ => Nat.zero_testBit k)) (2 ^ n) (Nat.two_pow_pos n)
  exact TB_isC hf hg h ⟨s, a, b, by rw [← c]; rfl⟩ (fun s hs e => mxs_ub (val := cntf n) (2 ^ n) s hs e)
theorem mxs_isM {f : Int → Int} {n : Nat} {gs : List Int} {row : Int → Int} (hf : ∀ j : Nat, j < n → 0 ≤ f j) (hg : ∀ g, g ∈ gs → 0 ≤ g) (h : TB f n gs row) : isM (wl f n 0) gs (mxs row (mtf f n) (2 ^ n)) := by
  obtain ⟨s, a, b, c⟩ := mxs_at (row := row) (val := mtf f n) (TB_row0 hg h) (by unfold mtf; exact MT_emp n (fun k _ => Nat.zero_testBit k)) (2 ^ n) (Nat.two_pow_pos n)
  exact TB_isM hf hg h ⟨s, a, b, by rw [← c]; rfl⟩ (fun s hs e => mxs_ub (val := mtf f n) (2 ^ n) s hs e)
theorem c_mostT_L (hb : bOK Θ 5 g h) {n : Nat} (n8 : n ≤ 8) (hn : E 0 3 = n) (hr : ∀ s : Nat, s < 2 ^ n → E 4 s = 0 ∨ E 4 s = 1) {K : mH → Int32 → Option (Int32 × mH)} : ∀ (r j q : Nat), j + r = 2 ^ n → r < q → P_G_mostByTable_13 Θ N K g q (HG Θ g E h) (J (mxs (E 4) (cntf n) j)) (J j) = K (HG Θ g E h) (J (mxs (E 4) (cntf n) (2 ^ n))) := by
  intro r
  have t8 := two8 n8
  induction r with
  | zero =>
    intro j q hj hq
    obtain ⟨q, rfl⟩ : ∃ n', q = n' + 1 := ⟨q - 1, by omega⟩
    rw [E_G_mostByTable_13, B_G_mostByTable_13, gf_I3 hb, bo_some, hn, J_shl' n8, if_pos (by rw [J_le] <;> omega), show 2 ^ n = j by omega]
  | succ r ih =>
    intro j q hj hq
    obtain ⟨q, rfl⟩ : ∃ n', q = n' + 1 := ⟨q - 1, by omega⟩
    have ih' := ih (j + 1) q (by omega) (by omega)
    have ge := mxs_ge (row := E 4) (val := cntf n) j
    have le := mxs_le (row := E 4) (val := cntf n) (B := 8) (by omega) j (fun s _ => by have := MT_one n (tb s); unfold cntf; rw [Int.toNat_natCast]; omega)
    have m1 := MT_one n (tb j)
    rw [mxs] at ih'
    rw [E_G_mostByTable_13, B_G_mostByTable_13, gf_I3 hb, bo_some, hn, J_shl' n8, if_neg (by rw [J_le] <;> omega), gf_A5 hb, bo_some, gf_a4 hb (by omega) (by omega), bo_some, jn_eq, ← ih', show ((j + 1 : Nat) : Int) = (j : Int) + 1 by omega]
    rcases hr j (by omega) with c | c
    · rw [if_pos (by rw [c]; rfl), if_neg (by omega), J_add]
    · rw [if_neg (by rw [c]; decide), if_pos c, c_bits n8 (by omega), bc_some]
      dsimp only
      rw [J_mx (by omega) (by omega) (by omega) (by omega), J_add]
      rfl
theorem c_mostM_L (hb : bOK Θ 5 g h) {n : Nat} (n8 : n ≤ 8) (hn : E 0 3 = n) (hr : ∀ s : Nat, s < 2 ^ n → E 4 s = 0 ∨ E 4 s = 1) (h3 : ∀ s : Nat, s < 2 ^ n → 0 ≤ E 3 s ∧ E 3 s ≤ 10000) {K : mH → Int32 → Option (Int32 × mH)} : ∀ (r j q : Nat), j + r = 2 ^ n → r < q → P_G_mostMetres_13 Θ N K g q (HG Θ g E h) (J (mxs (E 4) (E 3) j)) (J j) = K (HG Θ g E h) (J (mxs (E 4) (E 3) (2 ^ n))) := by
  intro r
  have t8 := two8 n8
  induction r with
  | zero =>
    intro j q hj hq
    obtain ⟨q, rfl⟩ : ∃ n', q = n' + 1 := ⟨q - 1, by omega⟩
    rw [E_G_mostMetres_13, B_G_mostMetres_13, gf_I3 hb, bo_some, hn, J_shl' n8, if_pos (by rw [J_le] <;> omega), show 2 ^ n = j by omega]
  | succ r ih =>
    intro j q hj hq
    obtain ⟨q, rfl⟩ : ∃ n', q = n' + 1 := ⟨q - 1, by omega⟩
    have ih' := ih (j + 1) q (by omega) (by omega)
    have ge := mxs_ge (row := E 4) (val := E 3) j
    have le := mxs_le (row := E 4) (val := E 3) (B := 10000) (by omega) j (fun s hs => (h3 s (by omega)).2)
    have m1 := h3 j (by omega)
    rw [mxs] at ih'
    rw [E_G_mostMetres_13, B_G_mostMetres_13, gf_I3 hb, bo_some, hn, J_shl' n8, if_neg (by rw [J_le] <;> omega), gf_A5 hb, bo_some, gf_a4 hb (by omega) (by omega), bo_some, jn_eq, ← ih', show ((j + 1 : Nat) : Int) = (j : Int) + 1 by omega]
    rcases hr j (by omega) with c | c
    · rw [if_pos (by rw [c]; rfl), if_neg (by omega), J_add]
    · rw [if_neg (by rw [c]; decide), if_pos c, gf_A4 hb, bo_some, gf_a3 hb (by omega) (by omega), bo_some]
      dsimp only
      rw [J_mx (by omega) (by omega) (by omega) (by omega), J_add]
theorem c_table (hN : 2000 ≤ N) (hb : bOK Θ 5 g h) (hs : HB Θ shD b D h) (hx : g + 5 ≤ b ∨ b + 13 ≤ g) (hd : DV D V) (I : Inv G H M V) : ∃ (E1 E' : Nat → Int → Int) (n : Nat), P_G_survey Θ N (HG Θ g E h) g b = some ((), HG Θ g E1 h) ∧ P_G_fillTable Θ N (HG Θ g E1 h) g = some ((), HG Θ g E' h) ∧ n ≤ 8 ∧ E' 0 3 = n ∧ (∀ k : Nat, k < n → 0 ≤ E' 2 k ∧ E' 2 k ≤ 60) ∧ wl (E' 2) n 0 = wlist V (mny V) ∧ (∀ q : Nat, q < 2 ^ n → E' 3 q = MT (E' 2) (tb q) n) ∧ TB (E' 2) n (gps V) (E' 4) := by
  have h4 := I.h4
  obtain ⟨E1, p1, p2, p3⟩ := c_survey (E := E) hN hb hs hx hd I
  have hl := wlist_len (V := V) (mny V)
  have h9 := gps_9 I
  have hm : (mny V : Int) = V 4 := by unfold mny; omega
  have l60 : ∀ k : Int, 0 ≤ k → k < (wlist V (mny V)).length → 0 ≤ E1 2 k ∧ E1 2 k ≤ 60 := fun k k1 k2 => by
    have := wlist_mem I (mny V) (by omega) (E1 2 k) (by
      rw [← p2.2]
      exact (wl_mem _ _).mpr ⟨k, k1, by omega, rfl⟩)
    omega
  obtain ⟨E2, q1, q2, q3, q4⟩ := c_fillTable (E := E1) (h := h) hN hb (n := (wlist V (mny V)).length) (m := (gps V).length) (by omega) h9 p2.1 p3.1 l60 (fun k k1 k2 => gps_rng (V := V) (E1 1 k) (by
      rw [← p3.2]
      exact (wl_mem _ _).mpr ⟨k, k1, by omega, rfl⟩))
  have e0 : E2 0 = E1 0 := q2 0 (by omega) (by omega)
  have e2 : E2 2 = E1 2 := q2 2 (by omega) (by omega)
  rw [p3.2] at q4
  exact ⟨E1, E2, (wlist V (mny V)).length, p1, q1, by omega, by rw [e0]; exact p2.1, fun k hk => by rw [e2]; exact l60 k (by omega) (by omega), by rw [e2]; exact p2.2, by rw [e2]; exact q3, by rw [e2]; exact q4⟩
theorem c_mostTable (hN : 2000 ≤ N) (hb : bOK Θ 5 g h) (hs : HB Θ shD b D h) (hx : g + 5 ≤ b ∨ b + 13 ≤ g) (hd : DV D V) (I : Inv G H M V) : ∃ E' v, P_G_mostByTable Θ N (HG Θ g E h) g b = some (J v, HG Θ g E' h) ∧ isC (wlist V (mny V)) (gps V) v := by
  obtain ⟨E1, E', n, p1, p2, n8, hn, hl, hw, hf, ht⟩ := c_table (E := E) hN hb hs hx hd I
  have t8 := two8 n8
  refine ⟨E', mxs (E' 4) (cntf n) (2 ^ n), ?_, ?_⟩
  · unfold P_G_mostByTable
    have := c_mostT_L (Θ := Θ) (N := N) (h := h) (E := E') (K := fun h13 u14 => some (u14, h13)) hb n8 hn (fun s hs => (ht s hs).1) (2 ^ n) 0 N (by omega) (by omega)
    rw [gf_O hb, p1, bc_some, gf_O hb, p2, bc_some]
    exact this
  · rw [← hw]
    exact mxs_isC (fun j hj => (hl j hj).1) (fun g hg => (gps_rng g hg).1) ht
theorem c_mostMetres (hN : 2000 ≤ N) (hb : bOK Θ 5 g h) (hs : HB Θ shD b D h) (hx : g + 5 ≤ b ∨ b + 13 ≤ g) (hd : DV D V) (I : Inv G H M V) : ∃ E' v, P_G_mostMetres Θ N (HG Θ g E h) g b = some (J v, HG Θ g E' h) ∧ isM (wlist V (mny V)) (gps V) v := by
  obtain ⟨E1, E', n, p1, p2, n8, hn, hl, hw, hf, ht⟩ := c_table (E := E) hN hb hs hx hd I
  have t8 := two8 n8
  have h3 : ∀ s : Nat, s < 2 ^ n → 0 ≤ E' 3 s ∧ E' 3 s ≤ 10000 := fun s hs => by
    have := MT_60 (σ := tb s) (B := 60) (by omega) n hl
    rw [hf s hs]
    omega
  refine ⟨E', mxs (E' 4) (E' 3) (2 ^ n), ?_, ?_⟩
  · unfold P_G_mostMetres
    have := c_mostM_L (Θ := Θ) (N := N) (h := h) (E := E') (K := fun h13 u14 => some (u14, h13)) hb n8 hn (fun s hs => (ht s hs).1) h3 (2 ^ n) 0 N (by omega) (by omega)
    rw [gf_O hb, p1, bc_some, gf_O hb, p2, bc_some]
    exact this
  · rw [mxs_ext (val' := mtf (E' 2) n) (2 ^ n) (fun s hs => by rw [hf s hs]; unfold mtf; rw [Int.toNat_natCast]), ← hw]
    exact mxs_isM (fun j hj => (hl j hj).1) (fun g hg => (gps_rng g hg).1) ht
end G4
