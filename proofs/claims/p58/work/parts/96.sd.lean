/-! numbers written: by the class's text, by the reference -/
/-- digits of x from n on -/
def wdg (β : Int → Int) (n x : Int) : Int → Int := fun j => if n ≤ j ∧ j < n + nd x then dg x (n + nd x - 1 - j).toNat else β j
section SD0
theorem pw_9 : ∀ k : Fin 10, pw k ≤ 1000000000 := by decide +kernel
theorem pw_9' {k : Nat} (h : k ≤ 9) : pw k ≤ 1000000000 := pw_9 ⟨k, by omega⟩
theorem pw_ge {x : Int} {k : Nat} (h0 : 0 ≤ x) (h1 : x < 1000000000) (hk : k + 1 ≤ nd x) : pw (k + 1) ≤ x ↔ k + 1 < nd x := by
  rw [← nd_pw k x h0 h1 hk]
  have p := pw_pos k
  have := Int.le_ediv_iff_mul_le (a := 10) (b := x) p
  rw [pw]
  constructor
  · intro h
    have : 10 ≤ x / pw k := this.mpr h
    omega
  · intro h
    exact this.mp (by omega)
theorem oB41 {y : Int} (h0 : 0 ≤ y) (h1 : y < 100) : oB8 41 (J y) = some (J (48 + y % 10)) := by
  have e : oBn 41 = some (100, fun i => 48 + i % 10) := rfl
  unfold oB8
  rw [e, bo_some, if_pos (inOK h0 (n := 100) (by omega) (by omega)), J_nI, J_nat h0 (by omega)]
  show some (J ((48 + y.toNat % 10 : Nat) : Int)) = _
  rw [show ((48 + y.toNat % 10 : Nat) : Int) = 48 + y % 10 by omega]
theorem oB42 {y : Int} (h0 : 0 ≤ y) (h1 : y < 100) : oB8 42 (J y) = some (J (48 + y / 10)) := by
  have e : oBn 42 = some (100, fun i => 48 + i / 10) := rfl
  unfold oB8
  rw [e, bo_some, if_pos (inOK h0 (n := 100) (by omega) (by omega)), J_nI, J_nat h0 (by omega)]
  show some (J ((48 + y.toNat / 10 : Nat) : Int)) = _
  rw [show ((48 + y.toNat / 10 : Nat) : Int) = 48 + y / 10 by omega]
theorem J_divn {a b : Int} (h1 : 0 ≤ a) (h2 : a < 2147483648) (h3 : 0 < b) (h4 : b < 2147483648) : J (-a) / J b = J (-(a / b)) := by
  apply Int32.toInt_inj.mp
  have hb : J b ≠ -1 := by
    intro h
    have h9 : J b = J (-1) := h
    rw [J_eq (by omega) h4 (by omega) (by omega)] at h9
    omega
  rw [Int32.toInt_div_of_ne_right _ _ hb, J_toInt (by omega) (by omega), J_toInt (by omega) h4, Int.neg_tdiv, Int.tdiv_eq_ediv_of_nonneg h1]
  have h5 : 0 ≤ a / b := Int.ediv_nonneg h1 (by omega)
  have h6 : a / b ≤ a := Int.ediv_le_self _ h1
  rw [J_toInt (by omega) (by omega)]
end SD0
section SD
variable {Θ : mW} {N q v m : Nat} {n : Int} {β : Int → Int} {h : mH} {A S : Nat → Int → Int} {cap : Nat}
theorem sz_L {x : Int} (h0 : 0 ≤ x) (h1 : x < 1000000000) {K : mH → Option (Int32 × mH)} : ∀ (r k f : Nat), k + 1 + r = nd x → r < f → P_IN_stringSize_16 Θ N K (J (-x)) (J 0) f h (J (-(pw (k + 1)))) (J ((k : Int) + 1)) = some (J (nd x), h) := by
  intro r
  have hn := nd_rng x
  induction r with
  | zero =>
    intro k f hk hf
    obtain ⟨f, rfl⟩ : ∃ n', f = n' + 1 := ⟨f - 1, by omega⟩
    have p := pw_9' (k := k + 1) (by omega)
    have p0 := pw_pos (k + 1)
    have g := pw_ge h0 h1 (k := k) (by omega)
    rw [E_IN_stringSize_16, B_IN_stringSize_16, if_neg (by rw [J_le] <;> omega), if_neg (by rw [J_le] <;> omega), J_add, show (k : Int) + 1 + 0 = nd x by omega]
  | succ r ih =>
    intro k f hk hf
    obtain ⟨f, rfl⟩ : ∃ n', f = n' + 1 := ⟨f - 1, by omega⟩
    have p := pw_9' (k := k + 1) (by omega)
    have p0 := pw_pos (k + 1)
    have g := pw_ge h0 h1 (k := k) (by omega)
    rw [E_IN_stringSize_16, B_IN_stringSize_16, if_neg (by rw [J_le] <;> omega), if_pos (by rw [J_le] <;> omega), J_mul, J_add, show 10 * -(pw (k + 1)) = -(pw (k + 1 + 1)) by rw [show pw (k + 1 + 1) = 10 * pw (k + 1) from rfl]; omega, show (k : Int) + 1 + 1 = ((k + 1 : Nat) : Int) + 1 by omega]
    exact ih (k + 1) f (by omega) (by omega)
theorem c_size (hN : 2000 ≤ N) {x : Int} (h0 : 0 ≤ x) (h1 : x < 1000000000) : P_IN_stringSize Θ N h (J x) = some (J (nd x), h) := by
  have hn := nd_rng x
  unfold P_IN_stringSize
  rw [jn_eq, if_neg (by rw [J_lt0] <;> omega), J_neg]
  have := sz_L (Θ := Θ) (N := N) (h := h) (K := fun h5 => some (((J 10) + (J 0)), h5)) h0 h1 (nd x - 1) 0 N (by omega) (by omega)
  exact this
abbrev HA (Θ : mW) (cap v : Nat) (A : Nat → Int → Int) (h : mH) : mH := BK Θ (shA cap) v A h
theorem ha_w (hb : bOK Θ 1 v h) (hc : cap ≤ 1000) {x w : Int} (h0 : 0 ≤ x) (h1 : x < cap) (w0 : 0 ≤ w) (w1 : w < 128) : aW Θ (HA Θ cap v A h) 4 v (J x) (vp_nar .byte (J w)) = some (HA Θ cap v (up2 A 0 x w) h) := by
  rw [nar_byte (by omega) w1]
  exact g_aW (L := shA cap) (i := 0) (n := cap) rfl (by omega) hb h0 h1
def gcK (Θ : mW) (a2 : Nat) : mH → Int32 → Int32 → Option (Int32 × mH) := fun h11 u12 u13 => (bo (oB8 41 (-u12)) (fun v14 => (bo (aW Θ h11 4 a2 (u13 + (J (-1))) (vp_nar .byte v14)) (fun h15 => (jn (fun (h17 : mH) (u18 : Int32) => (if J 0 = 0 then (some (u18, h17)) else (bo (aW Θ h17 4 a2 (u18 + (J (-1))) (vp_nar .byte (J 45))) (fun h19 => (some ((u18 + (J (-1))), h19)))))) (fun j16 => (if (J (-9)) ≤ u12 then (j16 h15 (u13 + (J (-1)))) else (bo (oB8 42 (-u12)) (fun v20 => (bo (aW Θ h15 4 a2 ((u13 + (J (-1))) + (J (-1))) (vp_nar .byte v20)) (fun h21 => (j16 h21 ((u13 + (J (-1))) + (J (-1)))))))))))))))
/-- what digits do to a row that ends at p -/
def dgs (A A' : Nat → Int → Int) (p y : Int) : Prop := (∀ j : Int, j < p - nd y ∨ p ≤ j → A' 0 j = A 0 j) ∧ ∀ i : Nat, i < nd y → A' 0 (p - 1 - i) = dg y i
theorem gc_end (hb : bOK Θ 1 v h) (hc : cap ≤ 1000) {y p : Int} (y0 : 0 ≤ y) (y1 : y < 100) (p0 : nd y ≤ p) (p1 : p ≤ cap) : ∃ A', gcK Θ v (HA Θ cap v A h) (J (-y)) (J p) = some (J (p - nd y), HA Θ cap v A' h) ∧ dgs A A' p y := by
  have hn := nd_rng y
  unfold gcK
  rw [J_neg, Int.neg_neg, oB41 y0 y1, bo_some, J_add, ha_w hb hc (by omega) (by omega) (by omega) (by omega), bo_some, jn_eq]
  by_cases c : y < 10
  · have e := nd_1 c
    rw [if_pos (by rw [J_le] <;> omega)]
    dsimp only
    rw [if_pos (show J 0 = (0 : Int32) from rfl), show p + -1 = p - nd y by omega]
    refine ⟨_, rfl, fun j hj => up2_nj (by omega), fun i hi => ?_⟩
    obtain rfl : i = 0 := by omega
    rw [show p - 1 - ((0 : Nat) : Int) = p - nd y by omega, up2_eq, dg]
  · have e := nd_2 (y := y) (by omega) y1
    rw [if_neg (by rw [J_le] <;> omega), oB42 y0 y1, bo_some, J_add, ha_w hb hc (by omega) (by omega) (by omega) (by omega), bo_some]
    dsimp only
    rw [if_pos (show J 0 = (0 : Int32) from rfl), show p + -1 + -1 = p - nd y by omega]
    refine ⟨_, rfl, fun j hj => by rw [up2_nj (by omega), up2_nj (by omega)], fun i hi => ?_⟩
    have i2 : i = 0 ∨ i = 1 := by omega
    rcases i2 with rfl | rfl
    · rw [up2_nj (by omega), show p - 1 - ((0 : Nat) : Int) = p + -1 by omega, up2_eq, dg]
    · rw [show p - 1 - ((1 : Nat) : Int) = p - nd y by omega, up2_eq, dg, dg]
      omega
theorem gc_L (hb : bOK Θ 1 v h) (hc : cap ≤ 1000) : ∀ (r : Nat) (y p : Int) (A : Nat → Int → Int) (f : Nat), 0 ≤ y → y < 1000000000 → nd y ≤ 2 * r + 2 → r < f → nd y ≤ p → p ≤ cap → ∃ A', P_IN_getChars_22 Θ N (gcK Θ v) v (J 0) f (HA Θ cap v A h) (J (-y)) (J p) = some (J (p - nd y), HA Θ cap v A' h) ∧ dgs A A' p y := by
  intro r
  induction r with
  | zero =>
    intro y p A f y0 y1 hn hf p0 p1
    obtain ⟨f, rfl⟩ : ∃ n', f = n' + 1 := ⟨f - 1, by omega⟩
    have c : y < 100 := by
      by_cases c : y < 100
      · exact c
      · have e1 := nd_10 (y := y) (by omega) y1
        have e2 := nd_10 (y := y / 10) (by omega) (by omega)
        have := nd_rng (y / 10 / 10)
        omega
    rw [E_IN_getChars_22, B_IN_getChars_22, if_pos (by rw [J_lt] <;> omega)]
    exact gc_end hb hc y0 c p0 p1
  | succ r ih =>
    intro y p A f y0 y1 hn hf p0 p1
    obtain ⟨f, rfl⟩ : ∃ n', f = n' + 1 := ⟨f - 1, by omega⟩
    rw [E_IN_getChars_22, B_IN_getChars_22]
    by_cases c : y < 100
    · rw [if_pos (by rw [J_lt] <;> omega)]
      exact gc_end hb hc y0 c p0 p1
    · have e1 := nd_10 (y := y) (by omega) y1
      have e2 := nd_10 (y := y / 10) (by omega) (by omega)
      have e3 := nd_rng (y / 10 / 10)
      have e4 : y / 10 / 10 = y / 100 := by omega
      rw [e4] at e2 e3
      obtain ⟨A', i1, i2, i3⟩ := ih (y / 100) (p - 2) (up2 (up2 A 0 (p + -1) (48 + y % 100 % 10)) 0 (p + -1 + -1) (48 + y % 100 / 10)) f (by omega) (by omega) (by omega) (by omega) (by omega) (by omega)
      rw [if_neg (by rw [J_lt] <;> omega), J_divn y0 (by omega) (by omega) (by omega), J_mul, J_sub, show -(y / 100) * 100 - -y = y % 100 by omega, oB41 (by omega) (by omega), bo_some, J_add, ha_w hb hc (by omega) (by omega) (by omega) (by omega), bo_some, oB42 (by omega) (by omega), bo_some, J_add, ha_w hb hc (by omega) (by omega) (by omega) (by omega), bo_some, show p + -1 + -1 = p - 2 by omega]
      rw [show p + -1 + -1 = p - 2 by omega] at i1 i2
      refine ⟨A', by rw [i1, show p - 2 - nd (y / 100) = p - nd y by omega], fun j hj => ?_, fun i hi => ?_⟩
      · rw [i2 j (by omega), up2_nj (by omega), up2_nj (by omega)]
      · by_cases z0 : i = 0
        · subst z0
          rw [i2 _ (by omega), up2_nj (by omega), show p - 1 - ((0 : Nat) : Int) = p + -1 by omega, up2_eq, dg]
          omega
        · by_cases z1 : i = 1
          · subst z1
            rw [i2 _ (by omega), show p - 1 - ((1 : Nat) : Int) = p - 2 by omega, up2_eq, dg, dg]
            omega
          · obtain ⟨i, rfl⟩ : ∃ n', i = n' + 2 := ⟨i - 2, by omega⟩
            have := i3 i (by omega)
            rw [show p - 1 - ((i + 2 : Nat) : Int) = p - 2 - 1 - i by omega, this, show dg y (i + 2) = dg (y / 10 / 10) i from rfl, e4]
theorem c_chars (hN : 2000 ≤ N) (hb : bOK Θ 1 v h) (hc : cap ≤ 1000) {x p : Int} (x0 : 0 ≤ x) (x1 : x < 1000000000) (p0 : nd x ≤ p) (p1 : p ≤ cap) : ∃ A', P_IN_getChars Θ N (HA Θ cap v A h) (J x) (J p) v = some (J (p - nd x), HA Θ cap v A' h) ∧ dgs A A' p x := by
  have hn := nd_rng x
  obtain ⟨A', e, d⟩ := gc_L (N := N) hb hc 4 x p A N x0 x1 (by omega) (by omega) p0 p1
  refine ⟨A', ?_, d⟩
  unfold P_IN_getChars
  rw [jn_eq, if_pos (show (0 : Int32) ≤ J x by rw [J_0le] <;> omega)]
  dsimp only
  rw [jn_eq, if_pos (show J 0 = (0 : Int32) from rfl), J_neg]
  exact e
theorem sb_putI (hN : 2000 ≤ N) (hs : SBs Θ q v n β h) {x : Int} (x0 : 0 ≤ x) (x1 : x < 1000000000) (hn : n ≤ 50) : ∃ (v2 : Nat) (h2 : mH), P_SB_append_I Θ N h q (J x) = some (q, h2) ∧ SBs Θ q v2 (n + nd x) (wdg β n x) h2 ∧ (v2 = v ∨ mwB Θ + h.length ≤ v2) ∧ Nx Θ h h2 (fun x => x = q ∨ x = v) 1 140 := by
  have dn := nd_rng x
  have hn0 : 0 ≤ n := by
    obtain ⟨B, A, cap, b1, b2, b3, b4, b5, b6, b7⟩ := hs
    omega
  obtain ⟨v2, h2, e1, ⟨B, A, cap, b1, b2, b3, b4, b5, b6, b7⟩, e3, e4⟩ := sb_ens (N := N) hs (c := n + nd x) (by omega) (by omega)
  have hc : rI Θ h 8 q 3 = some (J n) := by
    obtain ⟨B, A, cap, b1, b2, b3, b4, b5, b6, b7⟩ := hs
    exact b_count b1 b4.2.2
  have hO : ∀ {ρ : Type} {p : Option ρ}, gO Θ h 8 q p = p := by
    obtain ⟨B, A, cap, b1, b2, b3, b4, b5, b6, b7⟩ := hs
    exact fun {ρ} {p} => b_O8 b1
  have hl : shB.length = 1 := rfl
  have la : (shA cap).length = 1 := rfl
  obtain ⟨A', g1, g2, g3⟩ := c_chars (N := N) (A := A) (cap := cap) (v := v2) (h := h2) hN b2.1 (by omega) x0 x1 (p := n + nd x) (by omega) (by omega)
  have hA2 : HA Θ cap v2 A h2 = h2 := b2.2
  rw [hA2] at g1
  have b2' : HB Θ (shA cap) v2 A' (HA Θ cap v2 A' h2) := HB.self b2.1
  have b1' : HB Θ shB q B (HA Θ cap v2 A' h2) := b1.other b2.1 (by omega)
  have w3 : wF Θ (HA Θ cap v2 A' h2) 8 q 3 (.int (J (n + nd x))) = some (BK Θ shB q (up2 B 0 3 (n + nd x)) (HA Θ cap v2 A' h2)) := by
    have := HB.xF (w := n + nd x) b1' (i := 0) (ci := 8) (k := 3) rfl rfl
    rwa [Nat.add_zero] at this
  unfold P_SB_append_I P_AB_append_I P_AB_isLatin1
  rw [hO, hc, bo_some, c_size hN x0 x1, bc_some, hO, J_add, e1, bc_some, b_O8 b1, if_neg (show ¬ (1 : Int32) = 0 by decide), b_coder b1 b4.2.1, bo_some, if_pos (show J 0 = (0 : Int32) from rfl), bc_some, if_neg (show ¬ J 1 = (0 : Int32) by decide), b_value b1 b4.1, bo_some, g1, bc_some, w3, bo_some, bc_some]
  refine ⟨v2, _, rfl, ⟨_, _, cap, HB.self b1'.1, b2'.other b1'.1 (by omega), b3, ⟨?_, ?_, ?_⟩, by omega, fun j j1 j2 => ?_, fun j j1 j2 => ?_⟩, e3, ?_⟩
  · rw [up2_nj (by omega)]; exact b4.1
  · rw [up2_nj (by omega)]; exact b4.2.1
  · exact up2_eq
  · by_cases c : n ≤ j ∧ j < n + nd x
    · have := g3 (n + nd x - 1 - j).toNat (by omega)
      rw [show n + nd x - 1 - (((n + nd x - 1 - j).toNat : Nat) : Int) = j by omega] at this
      rw [this]
      have := dg_rng (n + nd x - 1 - j).toNat x
      omega
    · rw [g2 j (by omega)]
      exact b6 j j1 j2
  · unfold wdg
    by_cases c : n ≤ j ∧ j < n + nd x
    · have := g3 (n + nd x - 1 - j).toNat (by omega)
      rw [show n + nd x - 1 - (((n + nd x - 1 - j).toNat : Nat) : Int) = j by omega] at this
      rw [if_pos c]
      exact this
    · rw [if_neg c, g2 j (by omega)]
      exact b7 j j1 (by omega)
  · obtain ⟨y1, y2, y3⟩ := e4
    have zz : Nx Θ h2 (HA Θ cap v2 A' h2) (fun x => v2 ≤ x ∧ x < v2 + (shA cap).length) 0 0 := Nx.bk b2
    obtain ⟨z1, z2, z3⟩ := zz
    obtain ⟨u1, u2, u3⟩ := Nx.bk b1' (D2 := up2 B 0 3 (n + nd x))
    refine ⟨by omega, by omega, fun x hx hp => ?_⟩
    rw [u3 x (by omega) (by omega), z3 x (by omega) (by omega), y3 x hx (by omega)]
/-! the reference writes -/
end SD
