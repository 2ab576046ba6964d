/-! texts: a letter more, none, one read; digits -/
section SB2
variable {Θ : mW} {N q v : Nat} {n : Int} {β : Int → Int} {h : mH}
theorem b_at : ∀ b : Fin 128, J ((b : Nat) : Int) &&& J 255 = J ((b : Nat) : Int) := by decide +kernel
theorem b_at' {b : Int} (h1 : 0 ≤ b) (h2 : b < 128) : J b &&& J 255 = J b := by
  have := b_at ⟨b.toNat, by omega⟩
  simp only [Int.toNat_of_nonneg h1] at this
  exact this
theorem sb_length (hs : SBs Θ q v n β h) : P_SB_length Θ N h q = some (J n, h) := by
  obtain ⟨B, A, cap, b1, b2, b3, b4, b5, b6, b7⟩ := hs
  unfold P_SB_length P_AB_length
  rw [b_O8 b1, b_count b1 b4.2.2, bo_some, bc_some]
theorem sb_charAt (hs : SBs Θ q v n β h) {i : Int} (i0 : 0 ≤ i) (i1 : i < n) : P_SB_charAt Θ N h q (J i) = some (J (β i), h) := by
  obtain ⟨B, A, cap, b1, b2, b3, b4, b5, b6, b7⟩ := hs
  have hN : aN Θ h v = some (J cap) := HB.xN b2 (i := 0) rfl (by omega)
  have hR : aR Θ h 4 v (J i) = some (J (A 0 i)) := HB.xR b2 (i := 0) (k := cap) rfl (by omega) i0 (by omega)
  have e := b7 i i0 i1
  have r := b6 i i0 (by omega)
  unfold P_SB_charAt P_AB_charAt P_ST_checkIndex P_PR_checkIndex
  rw [b_O8 b1, b_coder b1 b4.2.1, bo_some, b_value b1 b4.1, bo_some, b_count b1 b4.2.2, bo_some, hN, bo_some, sh_r, J_mn (by omega) (by omega) (by omega) (by omega), Int.min_eq_left (by omega), if_neg (by rw [J_lt0] <;> omega), if_pos (by rw [J_lt] <;> omega), bc_some, bc_some, if_pos (show J 0 = (0 : Int32) from rfl), hR, bo_some, b_at' r.1 r.2, J_chr (by omega) (by omega), if_pos (chr_rng (by omega) (by omega)), bc_some, if_pos (chr_rng (by omega) (by omega)), e]
theorem sb_clear (hs : SBs Θ q v n β h) : ∃ h2, P_SB_setLength Θ N h q (J 0) = some ((), h2) ∧ SBs Θ q v 0 β h2 ∧ Nx Θ h h2 (fun x => x = q) 0 0 := by
  obtain ⟨B, A, cap, b1, b2, b3, b4, b5, b6, b7⟩ := hs
  have hN : aN Θ h v = some (J cap) := HB.xN b2 (i := 0) rfl (by omega)
  have one : ∀ (B : Nat → Int → Int) (h : mH), HB Θ shB q B h → wF Θ h 8 q 3 (.int (J 0)) = some (BK Θ shB q (up2 B 0 3 0) h) := fun B h b => by
    have := HB.xF (w := 0) b (i := 0) (ci := 8) (k := 3) rfl rfl
    rwa [Nat.add_zero] at this
  have two : ∀ (B : Nat → Int → Int) (h : mH), HB Θ shB q B h → wF Θ h 8 q 2 (.int (J 1)) = some (BK Θ shB q (up2 B 0 2 1) h) := fun B h b => by
    have := HB.xF (w := 1) b (i := 0) (ci := 8) (k := 2) rfl rfl
    rwa [Nat.add_zero] at this
  have hl : shB.length = 1 := rfl
  have la : (shA cap).length = 1 := rfl
  have nx : ∀ (B : Nat → Int → Int) (D2 : Nat → Int → Int) (h : mH), HB Θ shB q B h → Nx Θ h (BK Θ shB q D2 h) (fun x => x = q) 0 0 := fun B D2 h b => (Nx.bk b).wid (fun x _ hx => by omega) (Nat.le_refl 0) (Nat.le_refl 0)
  unfold P_SB_setLength P_AB_setLength P_AB_ensureCapacityInternal
  rw [b_O8 b1, if_pos (show (0 : Int32) ≤ J 0 by decide), b_O8 b1, b_value b1 b4.1, bo_some, hN, bo_some, b_coder b1 b4.2.1, bo_some, sh_r, J_sub, if_pos (by rw [J_le0] <;> omega), bc_some, b_count b1 b4.2.2, bo_some, if_pos (by rw [J_le] <;> omega), bo_some]
  by_cases c : n ≤ 0
  · rw [if_pos (by rw [J_le] <;> omega), one B h b1, bo_some, bc_some]
    refine ⟨_, rfl, ⟨_, A, cap, HB.self b1.1, b2.other b1.1 (by omega), b3, ⟨?_, ?_, ?_⟩, by omega, b6, fun j j1 j2 => by omega⟩, nx B _ h b1⟩
    · rw [up2_nj (by omega)]; exact b4.1
    · rw [up2_nj (by omega)]; exact b4.2.1
    · exact up2_eq
  · have b1' : HB Θ shB q (up2 B 0 2 1) (BK Θ shB q (up2 B 0 2 1) h) := HB.self b1.1
    rw [if_neg (by rw [J_le] <;> omega), two B h b1, bo_some, one _ _ b1', bo_some, bc_some]
    refine ⟨_, rfl, ⟨_, A, cap, HB.self b1'.1, (b2.other b1.1 (by omega)).other b1'.1 (by omega), b3, ⟨?_, ?_, ?_⟩, by omega, b6, fun j j1 j2 => by omega⟩, ((nx B _ h b1).trans (nx _ _ _ b1')).up (Nat.le_refl 0) (Nat.le_refl 0)⟩
    · rw [up2_nj (by omega), up2_nj (by omega)]; exact b4.1
    · rw [up2_nj (by omega), up2_nj (by omega)]; exact b4.2.1
    · exact up2_eq
theorem sb_putC (hs : SBs Θ q v n β h) {a : Int} (a0 : 0 ≤ a) (a1 : a < 128) (hn : n ≤ 60) : ∃ (v2 : Nat) (h2 : mH), P_SB_append_C Θ N h q (J a) = some (q, h2) ∧ SBs Θ q v2 (n + 1) (up1 β n a) h2 ∧ (v2 = v ∨ mwB Θ + h.length ≤ v2) ∧ Nx Θ h h2 (fun x => x = q ∨ x = v) 1 140 := by
  have hn0 : 0 ≤ n := by
    obtain ⟨B, A, cap, b1, b2, b3, b4, b5, b6, b7⟩ := hs
    omega
  obtain ⟨v2, h2, e1, ⟨B, A, cap, b1, b2, b3, b4, b5, b6, b7⟩, e3, e4⟩ := sb_ens (N := N) hs (c := n + 1) (by omega) (by omega)
  have hc : rI Θ h 8 q 3 = some (J n) := by
    obtain ⟨B, A, cap, b1, b2, b3, b4, b5, b6, b7⟩ := hs
    exact b_count b1 b4.2.2
  have hO : ∀ {ρ : Type} {p : Option ρ}, gO Θ h 8 q p = p := by
    obtain ⟨B, A, cap, b1, b2, b3, b4, b5, b6, b7⟩ := hs
    exact fun {ρ} {p} => b_O8 b1
  have w3 : wF Θ h2 8 q 3 (.int (J (n + 1))) = some (BK Θ shB q (up2 B 0 3 (n + 1)) h2) := by
    have := HB.xF (w := n + 1) b1 (i := 0) (ci := 8) (k := 3) rfl rfl
    rwa [Nat.add_zero] at this
  have hl : shB.length = 1 := rfl
  have la : (shA cap).length = 1 := rfl
  have b1' : HB Θ shB q (up2 B 0 3 (n + 1)) (BK Θ shB q (up2 B 0 3 (n + 1)) h2) := HB.self b1.1
  have b2' : HB Θ (shA cap) v2 A (BK Θ shB q (up2 B 0 3 (n + 1)) h2) := b2.other b1.1 (by omega)
  have w4 := HB.xW (w := a) (x := n) b2' (i := 0) (t := 4) (k := cap) rfl (by omega) (by omega) (by omega)
  rw [Nat.add_zero] at w4
  have nar : vp_nar .byte ((J a).toInt8.toInt32) = J a := by rw [J_byt (by omega) a1, nar_byte (by omega) a1]
  unfold P_SB_append_C P_AB_append_C P_AB_isLatin1 P_S1_canEncode
  rw [hO, hc, bo_some, hO, J_add, e1, bc_some, b_O8 b1, if_neg (show ¬ (1 : Int32) = 0 by decide), b_coder b1 b4.2.1, bo_some, if_pos (show J 0 = (0 : Int32) from rfl), bc_some, jn_eq, if_neg (show ¬ J 1 = (0 : Int32) by decide), if_neg (by rw [J_lt] <;> omega), bc_some, if_neg (show ¬ J 1 = (0 : Int32) by decide), b_value b1 b4.1, bo_some, b_count b1 b4.2.2, bo_some, J_add, w3, bo_some, nar, w4, bo_some, bc_some]
  refine ⟨v2, _, rfl, ⟨_, _, cap, b1'.other b2'.1 (by omega), HB.self b2'.1, b3, ⟨?_, ?_, ?_⟩, by omega, fun j j1 j2 => ?_, fun j j1 j2 => ?_⟩, e3, ?_⟩
  · rw [up2_nj (by omega)]; exact b4.1
  · rw [up2_nj (by omega)]; exact b4.2.1
  · exact up2_eq
  · rw [up2_at]
    split
    · omega
    · exact b6 j j1 j2
  · rw [up2_at, up1_at]
    by_cases c : j = n
    · rw [if_pos ⟨rfl, c⟩, if_pos c]
    · rw [if_neg (fun x => c x.2), if_neg c]
      exact b7 j j1 (by omega)
  · have x1 := e4.trans ((Nx.bk b1 (D2 := up2 B 0 3 (n + 1))).wid (Q := fun x => x = q) (fun x _ hx => by omega) (Nat.le_refl 0) (Nat.le_refl 0))
    obtain ⟨y1, y2, y3⟩ := x1
    obtain ⟨z1, z2, z3⟩ := Nx.bk b2' (D2 := up2 A 0 n a)
    refine ⟨by omega, by omega, fun x hx hp => ?_⟩
    rw [z3 x (by omega) (by omega), y3 x hx (by omega)]
/-! digits -/
def nd (y : Int) : Nat := if y < 10 then 1 else if y < 100 then 2 else if y < 1000 then 3 else if y < 10000 then 4 else if y < 100000 then 5 else if y < 1000000 then 6 else if y < 10000000 then 7 else if y < 100000000 then 8 else 9
def dg (y : Int) : Nat → Int
  | 0 => 48 + y % 10
  | i + 1 => dg (y / 10) i
theorem nd_rng (y : Int) : 1 ≤ nd y ∧ nd y ≤ 9 := by
  unfold nd
  repeat' split
  all_goals omega
theorem nd_10 {y : Int} (h1 : 10 ≤ y) (h2 : y < 1000000000) : nd y = nd (y / 10) + 1 := by
  unfold nd
  rw [if_neg (by omega)]
  by_cases c2 : y < 100
  · rw [if_pos c2, if_pos (by omega)]
  · rw [if_neg c2, if_neg (show ¬ y / 10 < 10 by omega)]
    by_cases c3 : y < 1000
    · rw [if_pos c3, if_pos (by omega)]
    · rw [if_neg c3, if_neg (show ¬ y / 10 < 100 by omega)]
      by_cases c4 : y < 10000
      · rw [if_pos c4, if_pos (by omega)]
      · rw [if_neg c4, if_neg (show ¬ y / 10 < 1000 by omega)]
        by_cases c5 : y < 100000
        · rw [if_pos c5, if_pos (by omega)]
        · rw [if_neg c5, if_neg (show ¬ y / 10 < 10000 by omega)]
          by_cases c6 : y < 1000000
          · rw [if_pos c6, if_pos (by omega)]
          · rw [if_neg c6, if_neg (show ¬ y / 10 < 100000 by omega)]
            by_cases c7 : y < 10000000
            · rw [if_pos c7, if_pos (by omega)]
            · rw [if_neg c7, if_neg (show ¬ y / 10 < 1000000 by omega)]
              by_cases c8 : y < 100000000
              · rw [if_pos c8, if_pos (by omega)]
              · rw [if_neg c8, if_neg (show ¬ y / 10 < 10000000 by omega), if_pos (by omega)]
theorem nd_1 {y : Int} (h : y < 10) : nd y = 1 := by unfold nd; rw [if_pos h]
theorem nd_2 {y : Int} (h1 : 10 ≤ y) (h2 : y < 100) : nd y = 2 := by unfold nd; rw [if_neg (by omega), if_pos h2]
theorem dg_rng : ∀ (i : Nat) (y : Int), 48 ≤ dg y i ∧ dg y i ≤ 57
  | 0, y => by rw [dg]; omega
  | i + 1, y => by rw [dg]; exact dg_rng i (y / 10)
def pw : Nat → Int
  | 0 => 1
  | k + 1 => 10 * pw k
theorem pw_pos : ∀ k, 0 < pw k
  | 0 => by simp [pw]
  | k + 1 => by have := pw_pos k; rw [pw]; omega
theorem dg_pw : ∀ (i : Nat) (y : Int), dg y i = 48 + y / pw i % 10
  | 0, y => by rw [dg, pw, Int.ediv_one]
  | i + 1, y => by rw [dg, dg_pw i, pw, Int.ediv_ediv_of_nonneg (by omega)]
theorem nd_pw : ∀ (k : Nat) (y : Int), 0 ≤ y → y < 1000000000 → k + 1 ≤ nd y → (9 < y / pw k ↔ k + 1 < nd y)
  | 0, y, h0, h1, h2 => by
    rw [pw, Int.ediv_one]
    constructor
    · intro h
      have := nd_10 (y := y) (by omega) h1
      have := nd_rng (y / 10)
      omega
    · intro h
      by_cases c : y < 10
      · rw [nd_1 c] at h; omega
      · omega
  | k + 1, y, h0, h1, h2 => by
    have c : ¬ y < 10 := fun c => by rw [nd_1 c] at h2; omega
    have e := nd_10 (y := y) (by omega) h1
    have := nd_pw k (y / 10) (by omega) (by omega) (by omega)
    rw [pw, ← Int.ediv_ediv_of_nonneg (by omega)]
    omega
theorem pw_le : ∀ (k : Nat) (y : Int), 0 ≤ y → y < 1000000000 → k + 1 ≤ nd y → pw k ≤ y ∨ k = 0
  | 0, y, h0, h1, h2 => Or.inr rfl
  | k + 1, y, h0, h1, h2 => by
    have c : ¬ y < 10 := fun c => by rw [nd_1 c] at h2; omega
    have e := nd_10 (y := y) (by omega) h1
    have := pw_le k (y / 10) (by omega) (by omega) (by omega)
    left
    rw [pw]
    rcases this with h | h
    · omega
    · subst h
      simp only [pw]
      omega
end SB2
