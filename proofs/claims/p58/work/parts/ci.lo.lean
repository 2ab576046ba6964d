/-! the law: whom it picks, what it does -/
section LO
variable {Θ : mW} {o : Option (Int → Int)} {N f q q2 v a b n : Nat} {c c2 k : Int} {l l2 : List Int} {h h0 h1 h2 : mH} {S S2 : Nat → Int → Int} {V W G L : Int → Int} {P : Nat → Prop} {y z y2 z2 : Nat}
theorem J_rem {a m : Int} (a0 : 0 ≤ a) (a1 : a < 2147483648) (m0 : 0 < m) (m1 : m < 2147483648) : J a - J a / J m * J m = J (a % m) := by
  rw [J_div a0 a1 m0 m1, J_mul, J_sub]
  have := Int.emod_add_mul_ediv a m
  rw [Int.mul_comm m] at this
  exact congrArg J (by omega)
def who (V : Int → Int) (s : Int) : Prop := s = -1 ∨ ∃ k : Int, 0 ≤ k ∧ k < V 4 ∧ s = fd V k 0
theorem who_rng (I : In c V) (c0 : 0 ≤ c) (c1 : c ≤ 2000) {s : Int} (hs : who V s) : -1 ≤ s ∧ s < 100000 := by
  rcases hs with rfl | ⟨k, k0, k1, rfl⟩
  · omega
  · have := id_rng I c0 c1 k0 k1
    omega
theorem w_ship (wv : WV Θ f o c v h V) {a : Int} (a0 : 0 ≤ a) (a1 : a < 2147483648) : ∃ s, P_W_ship Θ N h f (J a) = some (.inl (J s), h) ∧ who V s := by
  have I := wv.i
  have h4 := I.h4
  unfold P_W_ship
  rw [wv.O, g_count wv, bc_some]
  by_cases z : V 4 = 0
  · rw [if_pos (show J (V 4) = (0 : Int32) by rw [z]; rfl)]
    exact ⟨-1, rfl, Or.inl rfl⟩
  · have e0 := Int.emod_nonneg a (show V 4 ≠ 0 by omega)
    have e1 := Int.emod_lt_of_pos a (show 0 < V 4 by omega)
    rw [if_neg (by rw [J_eq0] <;> omega), wv.O, g_count wv, bc_some, if_neg (by rw [J_eq0] <;> omega), J_rem a0 a1 (by omega) (by omega), wv.O, g_at wv (by omega) (by omega), bx_inl]
    exact ⟨_, rfl, Or.inr ⟨_, e0, e1, rfl⟩⟩
/-- a deed, done -/
theorem de_wv {p : Option (Int32 × mH)} (d : DE Θ f c v h p) : ∃ x h2 V2, p = some (x, h2) ∧ WV Θ f none (c + 1) v h2 V2 ∧ FR Θ f v v h h2 1 6 := by
  obtain ⟨x, h1, S', e, w, fr⟩ := d
  exact ⟨x, h1, S' 1, e, ⟨S', rfl, trivial, w⟩, fr⟩
theorem any_fin {p : Option (Int32 × mH)} (d : DE Θ f c v h p) : ∃ x h2 V2, bc p (fun v17 h16 => (some ((.inl v17 : Int32 ⊕ Nat), h16))) = some (.inl x, h2) ∧ WV Θ f none (c + 1) v h2 V2 ∧ FR Θ f v v h h2 1 6 := by
  obtain ⟨x, h2, V2, e, w, fr⟩ := de_wv d
  exact ⟨x, h2, V2, by rw [e, bc_some], w, fr⟩
theorem w_any (hN : 2000 ≤ N) (hL : mwL Θ ≤ 1000000) (c0 : 0 ≤ c) (c1 : c ≤ 2000) (wv : WV Θ f o c v h V) {a : Int} (a0 : 0 ≤ a) (a1 : a < 900) : ∃ x h2 V2, P_W_any Θ N h f (J a) = some (.inl x, h2) ∧ WV Θ f none (c + 1) v h2 V2 ∧ FR Θ f v v h h2 1 6 := by
  have I := wv.i
  have r1 := pkv_rng (Θ := Θ) (i := a + 1) (m := 8) (by omega)
  have r2 := pkv_rng (Θ := Θ) (i := a + 2) (m := 60) (by omega)
  have r3 := pkv_rng (Θ := Θ) (i := a) (m := 24) (by omega)
  obtain ⟨s, s1, s2⟩ := w_ship (N := N) wv (a := pkv Θ (a + 1) 8) (by omega) (by omega)
  have sr := who_rng I c0 c1 s2
  obtain ⟨S, e, so, wd⟩ := id wv
  unfold P_W_any
  simp only [J_add]
  rw [w_pick hL (by omega) (by omega) (by omega) (by omega), bc_some, s1, bx_inl, w_pick hL (by omega) (by omega) (by omega) (by omega), bc_some, w_pick hL (by omega) (by omega) (by omega) (by omega), bc_some]
  generalize pkv Θ (a + 2) 60 = u at *
  generalize pkv Θ a 24 = m at *
  have bl : 0 ≤ s → ∃ B : Int, P_F_billOf Θ N h f (J s) = some (.inl (J B), h) ∧ 0 ≤ B ∧ B < 100000000 := fun s0 => by
    rcases s2 with z | ⟨k, k0, k1, rfl⟩
    · omega
    · have q := (q_f (N := N) hN c0 c1 wv k0 k1).1
      have r := (shp_rng I c0 c1 k0 k1).1
      exact ⟨_, q, r⟩
  by_cases big : m < 18
  · rw [if_neg (by rw [J_toInt (by omega) (by omega)]; omega)]
    have mm : m = 0 ∨ m = 1 ∨ m = 2 ∨ m = 3 ∨ m = 4 ∨ m = 5 ∨ m = 6 ∨ m = 7 ∨ m = 8 ∨ m = 9 ∨ m = 10 ∨ m = 11 ∨ m = 12 ∨ m = 13 ∨ m = 14 ∨ m = 15 ∨ m = 16 ∨ m = 17 := by omega
    rcases mm with rfl | rfl | rfl | rfl | rfl | rfl | rfl | rfl | rfl | rfl | rfl | rfl | rfl | rfl | rfl | rfl | rfl | rfl
    · -- 0
      rw [if_pos rfl]
      have x2 := pkv_rng (Θ := Θ) (i := a + 2) (m := 26) (by omega)
      have x3 := pkv_rng (Θ := Θ) (i := a + 3) (m := 76) (by omega)
      have x4 := pkv_rng (Θ := Θ) (i := a + 4) (m := 100) (by omega)
      rw [w_pick hL (by omega) (by omega) (by omega) (by omega), bc_some, w_pick hL (by omega) (by omega) (by omega) (by omega), bc_some, w_pick hL (by omega) (by omega) (by omega) (by omega), bc_some]
      simp only [J_add]
      exact any_fin (de_0 (int_r) (int_r) (int_r) wd hN c0 c1)
    · -- 1
      rw [if_neg (show ¬ J 1 = J 0 by decide), if_pos rfl]
      exact any_fin (de_1 (int_r) wd hN c0 c1)
    · -- 2
      rw [if_neg (show ¬ J 2 = J 0 by decide), if_neg (show ¬ J 2 = J 1 by decide), if_pos rfl]
      exact any_fin (de_2 (int_r) (int_r) wd hN c0 c1)
    · -- 3
      rw [if_neg (show ¬ J 3 = J 0 by decide), if_neg (show ¬ J 3 = J 1 by decide), if_neg (show ¬ J 3 = J 2 by decide), if_pos rfl]
      exact any_fin (de_2 (int_r) (int_r) wd hN c0 c1)
    · -- 4
      rw [if_neg (show ¬ J 4 = J 0 by decide), if_neg (show ¬ J 4 = J 1 by decide), if_neg (show ¬ J 4 = J 2 by decide), if_neg (show ¬ J 4 = J 3 by decide), if_pos rfl]
      exact any_fin (de_2 (int_r) (int_r) wd hN c0 c1)
    · -- 5
      rw [if_neg (show ¬ J 5 = J 0 by decide), if_neg (show ¬ J 5 = J 1 by decide), if_neg (show ¬ J 5 = J 2 by decide), if_neg (show ¬ J 5 = J 3 by decide), if_neg (show ¬ J 5 = J 4 by decide), if_pos rfl]
      exact any_fin (de_3 (int_r) wd hN c0 c1)
    · -- 6
      rw [if_neg (show ¬ J 6 = J 0 by decide), if_neg (show ¬ J 6 = J 1 by decide), if_neg (show ¬ J 6 = J 2 by decide), if_neg (show ¬ J 6 = J 3 by decide), if_neg (show ¬ J 6 = J 4 by decide), if_neg (show ¬ J 6 = J 5 by decide), if_pos rfl]
      exact any_fin (de_3 (int_r) wd hN c0 c1)
    · -- 7
      rw [if_neg (show ¬ J 7 = J 0 by decide), if_neg (show ¬ J 7 = J 1 by decide), if_neg (show ¬ J 7 = J 2 by decide), if_neg (show ¬ J 7 = J 3 by decide), if_neg (show ¬ J 7 = J 4 by decide), if_neg (show ¬ J 7 = J 5 by decide), if_neg (show ¬ J 7 = J 6 by decide), if_pos rfl]
      have x2 := pkv_rng (Θ := Θ) (i := a + 2) (m := 4) (by omega)
      rw [w_pick hL (by omega) (by omega) (by omega) (by omega), bc_some, jn_eq]
      by_cases z : pkv Θ (a + 2) 4 = 0
      · rw [if_pos (by rw [z]; rfl)]
        exact any_fin (de_4 (int_r) (Or.inl rfl) wd hN c0 c1)
      · rw [if_neg (by rw [J_eq0] <;> omega)]
        exact any_fin (de_4 (int_r) (Or.inr rfl) wd hN c0 c1)
    · -- 8
      rw [if_neg (show ¬ J 8 = J 0 by decide), if_neg (show ¬ J 8 = J 1 by decide), if_neg (show ¬ J 8 = J 2 by decide), if_neg (show ¬ J 8 = J 3 by decide), if_neg (show ¬ J 8 = J 4 by decide), if_neg (show ¬ J 8 = J 5 by decide), if_neg (show ¬ J 8 = J 6 by decide), if_neg (show ¬ J 8 = J 7 by decide), if_pos rfl]
      have x2 := pkv_rng (Θ := Θ) (i := a + 2) (m := 4) (by omega)
      rw [w_pick hL (by omega) (by omega) (by omega) (by omega), bc_some, jn_eq]
      by_cases z : pkv Θ (a + 2) 4 = 0
      · rw [if_pos (by rw [z]; rfl)]
        exact any_fin (de_4 (int_r) (Or.inl rfl) wd hN c0 c1)
      · rw [if_neg (by rw [J_eq0] <;> omega)]
        exact any_fin (de_4 (int_r) (Or.inr rfl) wd hN c0 c1)
    · -- 9
      rw [if_neg (show ¬ J 9 = J 0 by decide), if_neg (show ¬ J 9 = J 1 by decide), if_neg (show ¬ J 9 = J 2 by decide), if_neg (show ¬ J 9 = J 3 by decide), if_neg (show ¬ J 9 = J 4 by decide), if_neg (show ¬ J 9 = J 5 by decide), if_neg (show ¬ J 9 = J 6 by decide), if_neg (show ¬ J 9 = J 7 by decide), if_neg (show ¬ J 9 = J 8 by decide), if_pos rfl]
      have x2 := pkv_rng (Θ := Θ) (i := a + 2) (m := 2) (by omega)
      rw [w_pick hL (by omega) (by omega) (by omega) (by omega), bc_some]
      exact any_fin (de_5 (by omega) wd hN c0 c1)
    · -- 10
      rw [if_neg (show ¬ J 10 = J 0 by decide), if_neg (show ¬ J 10 = J 1 by decide), if_neg (show ¬ J 10 = J 2 by decide), if_neg (show ¬ J 10 = J 3 by decide), if_neg (show ¬ J 10 = J 4 by decide), if_neg (show ¬ J 10 = J 5 by decide), if_neg (show ¬ J 10 = J 6 by decide), if_neg (show ¬ J 10 = J 7 by decide), if_neg (show ¬ J 10 = J 8 by decide), if_neg (show ¬ J 10 = J 9 by decide), if_pos rfl]
      have x2 := pkv_rng (Θ := Θ) (i := a + 2) (m := 2) (by omega)
      rw [w_pick hL (by omega) (by omega) (by omega) (by omega), bc_some]
      exact any_fin (de_5 (by omega) wd hN c0 c1)
    · -- 11
      rw [if_neg (show ¬ J 11 = J 0 by decide), if_neg (show ¬ J 11 = J 1 by decide), if_neg (show ¬ J 11 = J 2 by decide), if_neg (show ¬ J 11 = J 3 by decide), if_neg (show ¬ J 11 = J 4 by decide), if_neg (show ¬ J 11 = J 5 by decide), if_neg (show ¬ J 11 = J 6 by decide), if_neg (show ¬ J 11 = J 7 by decide), if_neg (show ¬ J 11 = J 8 by decide), if_neg (show ¬ J 11 = J 9 by decide), if_neg (show ¬ J 11 = J 10 by decide), if_pos rfl]
      have x2 := pkv_rng (Θ := Θ) (i := a + 2) (m := 61) (by omega)
      rw [w_pick hL (by omega) (by omega) (by omega) (by omega), bc_some, J_sub]
      exact any_fin (de_6 (int_r) wd hN c0 c1)
    · -- 12
      rw [if_neg (show ¬ J 12 = J 0 by decide), if_neg (show ¬ J 12 = J 1 by decide), if_neg (show ¬ J 12 = J 2 by decide), if_neg (show ¬ J 12 = J 3 by decide), if_neg (show ¬ J 12 = J 4 by decide), if_neg (show ¬ J 12 = J 5 by decide), if_neg (show ¬ J 12 = J 6 by decide), if_neg (show ¬ J 12 = J 7 by decide), if_neg (show ¬ J 12 = J 8 by decide), if_neg (show ¬ J 12 = J 9 by decide), if_neg (show ¬ J 12 = J 10 by decide), if_neg (show ¬ J 12 = J 11 by decide), if_pos rfl]
      have x2 := pkv_rng (Θ := Θ) (i := a + 2) (m := 61) (by omega)
      rw [w_pick hL (by omega) (by omega) (by omega) (by omega), bc_some, J_sub]
      exact any_fin (de_6 (int_r) wd hN c0 c1)
    · -- 13
      rw [if_neg (show ¬ J 13 = J 0 by decide), if_neg (show ¬ J 13 = J 1 by decide), if_neg (show ¬ J 13 = J 2 by decide), if_neg (show ¬ J 13 = J 3 by decide), if_neg (show ¬ J 13 = J 4 by decide), if_neg (show ¬ J 13 = J 5 by decide), if_neg (show ¬ J 13 = J 6 by decide), if_neg (show ¬ J 13 = J 7 by decide), if_neg (show ¬ J 13 = J 8 by decide), if_neg (show ¬ J 13 = J 9 by decide), if_neg (show ¬ J 13 = J 10 by decide), if_neg (show ¬ J 13 = J 11 by decide), if_neg (show ¬ J 13 = J 12 by decide), if_pos rfl]
      exact any_fin (de_8 (int_r) wd hN c0 c1)
    · -- 14
      rw [if_neg (show ¬ J 14 = J 0 by decide), if_neg (show ¬ J 14 = J 1 by decide), if_neg (show ¬ J 14 = J 2 by decide), if_neg (show ¬ J 14 = J 3 by decide), if_neg (show ¬ J 14 = J 4 by decide), if_neg (show ¬ J 14 = J 5 by decide), if_neg (show ¬ J 14 = J 6 by decide), if_neg (show ¬ J 14 = J 7 by decide), if_neg (show ¬ J 14 = J 8 by decide), if_neg (show ¬ J 14 = J 9 by decide), if_neg (show ¬ J 14 = J 10 by decide), if_neg (show ¬ J 14 = J 11 by decide), if_neg (show ¬ J 14 = J 12 by decide), if_neg (show ¬ J 14 = J 13 by decide), if_pos rfl]
      exact any_fin (de_8 (int_r) wd hN c0 c1)
    · -- 15
      rw [if_neg (show ¬ J 15 = J 0 by decide), if_neg (show ¬ J 15 = J 1 by decide), if_neg (show ¬ J 15 = J 2 by decide), if_neg (show ¬ J 15 = J 3 by decide), if_neg (show ¬ J 15 = J 4 by decide), if_neg (show ¬ J 15 = J 5 by decide), if_neg (show ¬ J 15 = J 6 by decide), if_neg (show ¬ J 15 = J 7 by decide), if_neg (show ¬ J 15 = J 8 by decide), if_neg (show ¬ J 15 = J 9 by decide), if_neg (show ¬ J 15 = J 10 by decide), if_neg (show ¬ J 15 = J 11 by decide), if_neg (show ¬ J 15 = J 12 by decide), if_neg (show ¬ J 15 = J 13 by decide), if_neg (show ¬ J 15 = J 14 by decide), if_pos rfl]
      exact any_fin (de_9 (int_r) wd hN c0 c1)
    · -- 16
      rw [if_neg (show ¬ J 16 = J 0 by decide), if_neg (show ¬ J 16 = J 1 by decide), if_neg (show ¬ J 16 = J 2 by decide), if_neg (show ¬ J 16 = J 3 by decide), if_neg (show ¬ J 16 = J 4 by decide), if_neg (show ¬ J 16 = J 5 by decide), if_neg (show ¬ J 16 = J 6 by decide), if_neg (show ¬ J 16 = J 7 by decide), if_neg (show ¬ J 16 = J 8 by decide), if_neg (show ¬ J 16 = J 9 by decide), if_neg (show ¬ J 16 = J 10 by decide), if_neg (show ¬ J 16 = J 11 by decide), if_neg (show ¬ J 16 = J 12 by decide), if_neg (show ¬ J 16 = J 13 by decide), if_neg (show ¬ J 16 = J 14 by decide), if_neg (show ¬ J 16 = J 15 by decide), if_pos rfl]
      rw [jn_eq]
      by_cases s0 : 0 ≤ s
      · obtain ⟨B, b1, b2, b3⟩ := bl s0
        have x2 := pkv_rng (Θ := Θ) (i := a + 2) (m := max 1 B) (by omega)
        rw [if_pos (by rw [J_0le] <;> omega), wv.O, b1, bx_inl, J_mx (by omega) (by omega) (by omega) (by omega)]
        dsimp only
        rw [w_pick hL (by omega) (by omega) (by omega) (by omega), bc_some, J_add]
        exact any_fin (de_10 (int_r) (int_r) wd hN c0 c1)
      · have x2 := pkv_rng (Θ := Θ) (i := a + 2) (m := 1) (by omega)
        rw [if_neg (by rw [J_0le] <;> omega)]
        dsimp only
        rw [w_pick hL (by omega) (by omega) (by omega) (by omega), bc_some, J_add]
        exact any_fin (de_10 (int_r) (int_r) wd hN c0 c1)
    · -- 17
      rw [if_neg (show ¬ J 17 = J 0 by decide), if_neg (show ¬ J 17 = J 1 by decide), if_neg (show ¬ J 17 = J 2 by decide), if_neg (show ¬ J 17 = J 3 by decide), if_neg (show ¬ J 17 = J 4 by decide), if_neg (show ¬ J 17 = J 5 by decide), if_neg (show ¬ J 17 = J 6 by decide), if_neg (show ¬ J 17 = J 7 by decide), if_neg (show ¬ J 17 = J 8 by decide), if_neg (show ¬ J 17 = J 9 by decide), if_neg (show ¬ J 17 = J 10 by decide), if_neg (show ¬ J 17 = J 11 by decide), if_neg (show ¬ J 17 = J 12 by decide), if_neg (show ¬ J 17 = J 13 by decide), if_neg (show ¬ J 17 = J 14 by decide), if_neg (show ¬ J 17 = J 15 by decide), if_neg (show ¬ J 17 = J 16 by decide), if_pos rfl]
      rw [jn_eq]
      by_cases s0 : 0 ≤ s
      · obtain ⟨B, b1, b2, b3⟩ := bl s0
        have x2 := pkv_rng (Θ := Θ) (i := a + 2) (m := max 1 B) (by omega)
        rw [if_pos (by rw [J_0le] <;> omega), wv.O, b1, bx_inl, J_mx (by omega) (by omega) (by omega) (by omega)]
        dsimp only
        rw [w_pick hL (by omega) (by omega) (by omega) (by omega), bc_some, J_add]
        exact any_fin (de_10 (int_r) (int_r) wd hN c0 c1)
      · have x2 := pkv_rng (Θ := Θ) (i := a + 2) (m := 1) (by omega)
        rw [if_neg (by rw [J_0le] <;> omega)]
        dsimp only
        rw [w_pick hL (by omega) (by omega) (by omega) (by omega), bc_some, J_add]
        exact any_fin (de_10 (int_r) (int_r) wd hN c0 c1)
  · rw [if_pos (by rw [J_toInt (by omega) (by omega)]; omega)]
    have x3 := pkv_rng (Θ := Θ) (i := a + 3) (m := 3) (by omega)
    rw [w_pick hL (by omega) (by omega) (by omega) (by omega), bc_some, jn_eq]
    by_cases z : pkv Θ (a + 3) 3 = 0
    · have x2 := pkv_rng (Θ := Θ) (i := a + 2) (m := 24) (by omega)
      rw [if_pos (by rw [z]; rfl)]
      dsimp only
      rw [w_pick hL (by omega) (by omega) (by omega) (by omega), bc_some, J_add]
      exact any_fin (de_7 (int_r) wd hN c0 c1)
    · have x2 := pkv_rng (Θ := Θ) (i := a + 2) (m := 3) (by omega)
      rw [if_neg (by rw [J_eq0] <;> omega)]
      dsimp only
      rw [w_pick hL (by omega) (by omega) (by omega) (by omega), bc_some, J_add]
      exact any_fin (de_7 (int_r) wd hN c0 c1)
/-! the start of the law's dock -/
theorem blks_L (hN : 2000 ≤ N) (hL : mwL Θ ≤ 1000000) {K : mH → Int32 → Option (Unit × mH)} : ∀ (r k w : Nat) (c : Int) (h : mH) (V : Int → Int) (x : Int32), (k : Int) + r = pkv Θ 0 24 → r < w → 0 ≤ c → c + r ≤ 2000 → WV Θ f none c v h V → ∃ x2 h2 V2, P_W_lay_32 Θ N K f w h x (J k) = K h2 x2 ∧ WV Θ f none (c + r) v h2 V2 ∧ FR Θ f v v h h2 r (6 * r) := by
  have r0 := pkv_rng (Θ := Θ) (i := 0) (m := 24) (by omega)
  intro r
  induction r with
  | zero =>
    intro k w c h V x hk hw c0 c1 wv
    obtain ⟨w, rfl⟩ : ∃ n', w = n' + 1 := ⟨w - 1, by omega⟩
    rw [E_W_lay_32, B_W_lay_32, w_pick hL (by omega) (by omega) (by omega) (by omega), bc_some, if_pos (by rw [J_le] <;> omega)]
    exact ⟨x, h, V, rfl, wv.mono (by omega), FR.refl⟩
  | succ r ih =>
    intro k w c h V x hk hw c0 c1 wv
    obtain ⟨w, rfl⟩ : ∃ n', w = n' + 1 := ⟨w - 1, by omega⟩
    have e1 : ((k + 1 : Nat) : Int) = (k : Int) + 1 := by omega
    have r1 := pkv_rng (Θ := Θ) (i := 11 + k) (m := 60) (by omega)
    obtain ⟨S, e, so, wd⟩ := id wv
    obtain ⟨x1, h1, V1, d1, d2, d3⟩ := de_wv (de_8 (a1 := pkv Θ (11 + k) 60) (z2 := J 0) (z3 := J 0) (int_r) wd hN c0 (by omega))
    obtain ⟨x2, h2, V2, u1, u2, u3⟩ := ih (k + 1) w (c + 1) h1 V1 (x + x1) (by omega) (by omega) (by omega) (by omega) d2
    refine ⟨x2, h2, V2, ?_, u2.mono (by omega), (d3.trans u3).up (by omega) (by omega)⟩
    rw [E_W_lay_32, B_W_lay_32, w_pick hL (by omega) (by omega) (by omega) (by omega), bc_some, if_neg (by rw [J_le] <;> omega), J_add, w_pick hL (by omega) (by omega) (by omega) (by omega), bc_some, d1, bc_some, J_add, ← e1]
    exact u1
theorem gate_L (hN : 2000 ≤ N) {K : mH → Int32 → Option (Unit × mH)} : ∀ (r k w : Nat) (c : Int) (h : mH) (V : Int → Int) (x : Int32), k + r = 12 → r < w → 0 ≤ c → c + 2 * r ≤ 2000 → WV Θ f none c v h V → ∃ x2 h2 V2, P_W_lay_120 Θ N K f w h x (J k) = K h2 x2 ∧ WV Θ f none (c + 2 * r) v h2 V2 ∧ FR Θ f v v h h2 (2 * r) (12 * r) := by
  intro r
  induction r with
  | zero =>
    intro k w c h V x hk hw c0 c1 wv
    obtain ⟨w, rfl⟩ : ∃ n', w = n' + 1 := ⟨w - 1, by omega⟩
    rw [E_W_lay_120, B_W_lay_120, if_pos (by rw [J_le] <;> omega)]
    exact ⟨x, h, V, rfl, wv.mono (by omega), FR.refl⟩
  | succ r ih =>
    intro k w c h V x hk hw c0 c1 wv
    obtain ⟨w, rfl⟩ : ∃ n', w = n' + 1 := ⟨w - 1, by omega⟩
    have e1 : ((k + 1 : Nat) : Int) = (k : Int) + 1 := by omega
    obtain ⟨S, e, so, wd⟩ := id wv
    rw [E_W_lay_120, B_W_lay_120, if_neg (by rw [J_le] <;> omega), wd.O, x_isGateOpen wd.k, bc_some]
    by_cases z : J (S 1 2) = 0
    · rw [if_pos z]
      obtain ⟨x1, h1, V1, d1, d2, d3⟩ := de_wv (de_5 (N := N) (a1 := 1) (z2 := J 0) (z3 := J 0) (Or.inr rfl) wd hN c0 (by omega))
      obtain ⟨S1, e1', so1, wd1⟩ := id d2
      obtain ⟨x2, h2, V2, d4, d5, d6⟩ := de_wv (de_7 (N := N) (a1 := 1) (z2 := J 0) (z3 := J 0) (int_r) wd1 hN (by omega) (by omega))
      obtain ⟨x3, h3, V3, u1, u2, u3⟩ := ih (k + 1) w (c + 1 + 1) h2 V2 (x + (x1 + x2)) (by omega) (by omega) (by omega) (by omega) d5
      refine ⟨x3, h3, V3, ?_, u2.mono (by omega), ((d3.trans d6).trans u3).up (by omega) (by omega)⟩
      rw [d1, bc_some, d4, bc_some, J_add, ← e1]
      exact u1
    · rw [if_neg z]
      exact ⟨x, h, V, rfl, wv.mono (by omega), FR.refl.up (by omega) (by omega)⟩
theorem come_L (hN : 2000 ≤ N) (hL : mwL Θ ≤ 1000000) {K : mH → Int32 → Option (Unit × mH)} : ∀ (r k w : Nat) (c : Int) (h : mH) (V : Int → Int) (x : Int32), (k : Int) + r = 1 + pkv Θ 3 8 → r < w → 0 ≤ c → c + 3 * r ≤ 2000 → WV Θ f none c v h V → ∃ x2 h2 V2, P_W_lay_162 Θ N K f w h x (J k) = K h2 x2 ∧ WV Θ f none (c + 3 * r) v h2 V2 ∧ FR Θ f v v h h2 (3 * r) (18 * r) := by
  have r0 := pkv_rng (Θ := Θ) (i := 3) (m := 8) (by omega)
  intro r
  induction r with
  | zero =>
    intro k w c h V x hk hw c0 c1 wv
    obtain ⟨w, rfl⟩ : ∃ n', w = n' + 1 := ⟨w - 1, by omega⟩
    rw [E_W_lay_162, B_W_lay_162, w_pick hL (by omega) (by omega) (by omega) (by omega), bc_some, J_add, if_pos (by rw [J_le] <;> omega)]
    exact ⟨x, h, V, rfl, wv.mono (by omega), FR.refl⟩
  | succ r ih =>
    intro k w c h V x hk hw c0 c1 wv
    obtain ⟨w, rfl⟩ : ∃ n', w = n' + 1 := ⟨w - 1, by omega⟩
    have e1 : ((k + 1 : Nat) : Int) = (k : Int) + 1 := by omega
    have r51 := pkv_rng (Θ := Θ) (i := 51 + k) (m := 2) (by omega)
    have r61 := pkv_rng (Θ := Θ) (i := 61 + k) (m := 76) (by omega)
    have r71 := pkv_rng (Θ := Θ) (i := 71 + k) (m := 100) (by omega)
    have r81 := pkv_rng (Θ := Θ) (i := 81 + k) (m := 56) (by omega)
    have r91 := pkv_rng (Θ := Θ) (i := 91 + k) (m := 2) (by omega)
    obtain ⟨S, e, so, wd⟩ := id wv
    have key : ∃ m : Int, 1 ≤ m ∧ m ≤ 26 ∧ ∀ F : mH → Int32 → Option (Unit × mH), jn F (fun j37 => (if J (pkv Θ (51 + k) 2) = 0 then (j37 h (J 8)) else (j37 h (J 26)))) = F h (J m) := by
      by_cases z : pkv Θ (51 + k) 2 = 0
      · exact ⟨8, by omega, by omega, fun F => by rw [jn_eq, if_pos (by rw [z]; rfl)]⟩
      · exact ⟨26, by omega, by omega, fun F => by rw [jn_eq, if_neg (by rw [J_eq0] <;> omega)]⟩
    obtain ⟨m, m0, m1, key⟩ := key
    have r41 := pkv_rng (Θ := Θ) (i := 41 + k) (m := m) (by omega)
    obtain ⟨x1, h1, V1, d1, d2, d3⟩ := de_wv (de_0 (N := N) (a1 := 5 + pkv Θ (41 + k) m) (a2 := 5 + pkv Θ (61 + k) 76) (a3 := pkv Θ (71 + k) 100) (int_r) (int_r) (int_r) wd hN c0 (by omega))
    obtain ⟨S1, e1', so1, wd1⟩ := id d2
    obtain ⟨x2, h2, V2, d4, d5, d6⟩ := de_wv (de_2 (N := N) (a1 := k) (a2 := pkv Θ (81 + k) 56) (z3 := J 0) (int_r) (int_r) wd1 hN (by omega) (by omega))
    obtain ⟨S2, e2', so2, wd2⟩ := id d5
    obtain ⟨x3, h3, V3, d7, d8, d9⟩ := de_wv (de_4 (N := N) (a1 := k) (a2 := 1) (z3 := J 0) (int_r) (Or.inr rfl) wd2 hN (by omega) (by omega))
    obtain ⟨x4, h4, V4, u1, u2, u3⟩ := ih (k + 1) w (c + 1 + 1 + 1) h3 V3 ((x + x1) + (x2 + (J (pkv Θ (91 + k) 2) * x3))) (by omega) (by omega) (by omega) (by omega) d8
    refine ⟨x4, h4, V4, ?_, u2.mono (by omega), (((d3.trans d6).trans d9).trans u3).up (by omega) (by omega)⟩
    rw [E_W_lay_162, B_W_lay_162, w_pick hL (by omega) (by omega) (by omega) (by omega), bc_some, J_add, if_neg (by rw [J_le] <;> omega), J_add, w_pick hL (by omega) (by omega) (by omega) (by omega), bc_some, key]
    simp only [J_add]
    rw [w_pick hL (by omega) (by omega) (by omega) (by omega), bc_some, w_pick hL (by omega) (by omega) (by omega) (by omega), bc_some, w_pick hL (by omega) (by omega) (by omega) (by omega), bc_some, J_add, J_add, d1, bc_some, w_pick hL (by omega) (by omega) (by omega) (by omega), bc_some, d4, bc_some, w_pick hL (by omega) (by omega) (by omega) (by omega), bc_some, d7, bc_some, ← e1]
    exact u1
end LO
