/-! the questions, of the class alone: what each answers -/
section QU
variable {Θ : mW} {N f b : Nat} {c : Int} {S : Nat → Int → Int} {h h2 : mH} {bO : (Int → Int) → Prop} {D G : Nat → Int → Int} {V : Int → Int}
theorem x_shipCount (w : KX Θ f c h S bO) : P_F_shipCount Θ N h f = some (J (S 1 4), h) := by
  obtain ⟨b, D, r0, hs, hd, I, -, -⟩ := w.now
  unfold P_F_shipCount
  rw [r0, bo_some, rA10 hs, bo_some, n_cnt hs hd, bo_some]
theorem x_isGateOpen (w : KX Θ f c h S bO) : P_F_isGateOpen Θ N h f = some (J (S 1 2), h) := by
  obtain ⟨b, D, r0, hs, hd, I, -, -⟩ := w.now
  unfold P_F_isGateOpen
  rw [r0, bo_some, n_gat hs hd, bo_some]
  rcases I.h2 with z | z <;> rw [z] <;> simp
theorem x_level (w : KX Θ f c h S bO) : P_F_level Θ N h f = some (J (S 1 1), h) := by
  obtain ⟨b, D, r0, hs, hd, I, -, -⟩ := w.now
  unfold P_F_level
  rw [r0, bo_some, n_lvl hs hd, bo_some]
theorem x_hour (w : KX Θ f c h S bO) : P_F_hour Θ N h f = some (J (S 1 0), h) := by
  obtain ⟨b, D, r0, hs, hd, I, -, -⟩ := w.now
  unfold P_F_hour
  rw [r0, bo_some, n_hou hs hd, bo_some]
theorem x_paidTotal (w : KX Θ f c h S bO) : P_F_paidTotal Θ N h f = some (J (S 1 7), h) := by
  obtain ⟨b, D, r0, hs, hd, I, -, -⟩ := w.now
  unfold P_F_paidTotal
  rw [r0, bo_some, n_pai hs hd, bo_some]
theorem x_freeMetres (hN : 2000 ≤ N) (w : KX Θ f c h S bO) : P_F_freeMetres Θ N h f = some (J (frm (S 1) 60), h) := by
  obtain ⟨b, D, r0, hs, hd, I, -, -⟩ := w.now
  have t := tkn_frm I
  unfold P_F_freeMetres
  rw [r0, bo_some, rA10 hs, bo_some, gO2 hs, h_taken hN hs hd I, bc_some, J_sub]
  exact congrArg (fun q => some (J q, h)) (by omega)
theorem x_billTotal (hN : 2000 ≤ N) (w : KX Θ f c h S bO) : P_F_billTotal Θ N h f = some (J (smm (S 1) 8 (mny (S 1))), h) := by
  obtain ⟨b, D, r0, hs, hd, I, -, -⟩ := w.now
  unfold P_F_billTotal
  rw [r0, bo_some, rA10 hs, bo_some, gO2 hs, h_billSum hN hs hd I, bc_some]
theorem x_billByAcc (w : KX Θ f c h S bO) : P_F_billTotalByAccount Θ N h f = some (J (S 1 6 - S 1 7), h) := by
  obtain ⟨b, D, r0, hs, hd, I, -, -⟩ := w.now
  unfold P_F_billTotalByAccount
  rw [r0, bo_some, gO1 hs, h_accounts hs hd, bc_some]
theorem x_shipAt {p : Int} (hp : int' p) (w : KX Θ f c h S bO) : P_F_shipAt Θ N h f (J p) = if 0 ≤ p ∧ p ≤ S 1 4 - 1 then some (.inl (J (fd (S 1) p 0)), h) else some (.inr 14, h ++ [oB 14 []]) := by
  obtain ⟨b, D, r0, hs, hd, I, -, -⟩ := w.now
  have h4 := I.h4
  unfold P_F_shipAt
  by_cases c0 : p < 0
  · rw [if_pos (by rw [J_lt0 hp.1 hp.2]; exact c0), if_neg (by omega)]
    rfl
  · rw [if_neg (by rw [J_lt0 hp.1 hp.2]; exact c0), r0, bo_some, rA10 hs, bo_some, n_cnt hs hd, bo_some]
    by_cases c1 : p < S 1 4
    · have rq : aRQ Θ h 5 (b + 2) (J p) = some (b + 3 + ro D p) := HB.xQ hs (i := 2) (n := 8) rfl (by omega) (by omega) (by omega)
      have ra : rA Θ h 2 (b + 1) 0 = some (b + 2) := HB.xA hs (i := 1) rfl rfl
      rw [if_pos (by rw [J_lt hp.1 hp.2 (by omega) (by omega)]; exact c1), if_pos (by omega), bo_some, rA10 hs, bo_some, ra, bo_some, rq, bo_some, n_0 hs hd h4.2 (by omega) c1, bo_some]
    · rw [if_neg (by rw [J_lt hp.1 hp.2 (by omega) (by omega)]; exact c1), if_neg (by omega)]
      rfl
theorem x_isInDock {i : Int} (hi : int' i) (hN : 2000 ≤ N) (w : KX Θ f c h S bO) : P_F_isInDock Θ N h f (J i) = if fnd (S 1) i (mny (S 1)) = -1 then some (.inr 10, h ++ [oB 10 []]) else some (.inl (J (if fd (S 1) (fnd (S 1) i (mny (S 1))) 4 ≠ -1 then 1 else 0)), h) := by
  obtain ⟨b, D, r0, hs, hd, I, -, -⟩ := w.now
  have h4 := I.h4
  unfold P_F_isInDock
  rw [r0, bo_some, rA10 hs, bo_some, gO2 hs, h_known hN hs hd I hi]
  by_cases cc : fnd (S 1) i (mny (S 1)) = -1
  · rw [if_pos cc, if_pos cc]
    rfl
  · have fl := fnd_lt I cc
    have d := c_isDocked (N := N) hs.1 hd I fl.1 fl.2
    rw [hs.hd] at d
    rw [if_neg cc, if_neg cc, bx_inl, gO3 hs hd fl.1 (by omega), d, bc_some, fin_b (by split <;> simp)]
theorem x_positionOf {i : Int} (hi : int' i) (hN : 2000 ≤ N) (w : KX Θ f c h S bO) : P_F_positionOf Θ N h f (J i) = if fnd (S 1) i (mny (S 1)) = -1 then some (.inr 10, h ++ [oB 10 []]) else if fd (S 1) (fnd (S 1) i (mny (S 1))) 4 = -1 then some (.inr 12, h ++ [oB 12 []]) else some (.inl (J (fd (S 1) (fnd (S 1) i (mny (S 1))) 4)), h) := by
  obtain ⟨b, D, r0, hs, hd, I, -, -⟩ := w.now
  have h4 := I.h4
  have d := c_dockedOne (N := N) hN hs.1 hd I hi.1 hi.2
  rw [hs.hd, ex_hd hs, ex_hd hs] at d
  unfold P_F_positionOf
  rw [r0, bo_some, rA10 hs, bo_some, gO2 hs, d]
  by_cases cc : fnd (S 1) i (mny (S 1)) = -1
  · rw [if_pos cc, if_pos cc]
    rfl
  · have fl := fnd_lt I cc
    rw [if_neg cc, if_neg cc]
    by_cases c2 : fd (S 1) (fnd (S 1) i (mny (S 1))) 4 = -1
    · rw [if_pos c2, if_pos c2]
      rfl
    · rw [if_neg c2, if_neg c2, bx_inl, n_7 hs hd h4.2 fl.1 fl.2, bo_some]
theorem x_ask {i j : Int} (hi : int' i) (hN : 2000 ≤ N) (w : KX Θ f c h S bO) (j0 : 0 ≤ j) (j1 : j ≤ 8) {q : Nat} (hw : sf j = q) (hk : ([none, none, none, none, none, none, none, none, none] : List (Option (Option Nat)))[q]? = some none) : (bo (rA Θ h 0 f 0) (fun v1 => (bo (rA Θ h 1 v1 0) (fun v2 => (gO Θ h 2 v2 (bx (P_L_known Θ N h v2 (J i)) (fun v4 h3 => (bo (rI Θ h3 3 v4 q) (fun v5 => (some ((.inl v5 : Int32 ⊕ Nat), h3))))) (fun n9 h9 => xp n9 h9))))))) = if fnd (S 1) i (mny (S 1)) = -1 then some (.inr 10, h ++ [oB 10 []]) else some (.inl (J (fd (S 1) (fnd (S 1) i (mny (S 1))) j)), h) := by
  obtain ⟨b, D, r0, hs, hd, I, -, -⟩ := w.now
  have h4 := I.h4
  rw [r0, bo_some, rA10 hs, bo_some, gO2 hs, h_known hN hs hd I hi]
  by_cases cc : fnd (S 1) i (mny (S 1)) = -1
  · rw [if_pos cc, if_pos cc]
    rfl
  · have fl := fnd_lt I cc
    rw [if_neg cc, if_neg cc, bx_inl, n_s hs hd h4.2 fl.1 fl.2 j0 j1 hw hk, bo_some]
theorem x_dirtOf {i : Int} (hi : int' i) (hN : 2000 ≤ N) (w : KX Θ f c h S bO) : P_F_dirtOf Θ N h f (J i) = if fnd (S 1) i (mny (S 1)) = -1 then some (.inr 10, h ++ [oB 10 []]) else some (.inl (J (fd (S 1) (fnd (S 1) i (mny (S 1))) 3)), h) := x_ask (j := 3) (q := 3) hi hN w (by decide) (by decide) rfl rfl
theorem x_damageOf {i : Int} (hi : int' i) (hN : 2000 ≤ N) (w : KX Θ f c h S bO) : P_F_damageOf Θ N h f (J i) = if fnd (S 1) i (mny (S 1)) = -1 then some (.inr 10, h ++ [oB 10 []]) else some (.inl (J (fd (S 1) (fnd (S 1) i (mny (S 1))) 6)), h) := x_ask (j := 6) (q := 4) hi hN w (by decide) (by decide) rfl rfl
theorem x_hoursAfloat {i : Int} (hi : int' i) (hN : 2000 ≤ N) (w : KX Θ f c h S bO) : P_F_hoursAfloat Θ N h f (J i) = if fnd (S 1) i (mny (S 1)) = -1 then some (.inr 10, h ++ [oB 10 []]) else some (.inl (J (fd (S 1) (fnd (S 1) i (mny (S 1))) 7)), h) := x_ask (j := 7) (q := 5) hi hN w (by decide) (by decide) rfl rfl
theorem x_billOf {i : Int} (hi : int' i) (hN : 2000 ≤ N) (w : KX Θ f c h S bO) : P_F_billOf Θ N h f (J i) = if fnd (S 1) i (mny (S 1)) = -1 then some (.inr 10, h ++ [oB 10 []]) else some (.inl (J (fd (S 1) (fnd (S 1) i (mny (S 1))) 8)), h) := x_ask (j := 8) (q := 6) hi hN w (by decide) (by decide) rfl rfl
theorem x_isAfloat {i : Int} (hi : int' i) (hN : 2000 ≤ N) (w : KX Θ f c h S bO) : P_F_isAfloat Θ N h f (J i) = if fnd (S 1) i (mny (S 1)) = -1 then some (.inr 10, h ++ [oB 10 []]) else some (.inl (J (if fd (S 1) (fnd (S 1) i (mny (S 1))) 4 = -1 ∨ fd (S 1) (fnd (S 1) i (mny (S 1))) 2 ≤ S 1 1 then 1 else 0)), h) := by
  obtain ⟨b, D, r0, hs, hd, I, -, -⟩ := w.now
  have h4 := I.h4
  unfold P_F_isAfloat
  rw [r0, bo_some, rA10 hs, bo_some, gO2 hs, h_known hN hs hd I hi]
  by_cases cc : fnd (S 1) i (mny (S 1)) = -1
  · rw [if_pos cc, if_pos cc]
    rfl
  · have fl := fnd_lt I cc
    have l := I.h1
    have d := c_floatsAt (N := N) hs.1 hd I fl.1 fl.2 (x := S 1 1) (by omega) (by omega)
    rw [hs.hd] at d
    rw [if_neg cc, if_neg cc, bx_inl, r0, bo_some, n_lvl hs hd, bo_some, gO3 hs hd fl.1 (by omega), d, bc_some, fin_b (by split <;> simp)]
theorem x_seaLevel {p : Int} (hp : int' p) : P_F_seaLevel Θ N h f (J p) = if 0 ≤ p ∧ p ≤ 9999 then some (.inl (J (sea p)), h) else some (.inr 11, h ++ [oB 11 []]) := by
  unfold P_F_seaLevel
  rw [c_checkHour hp.1 hp.2]
  by_cases cc : 0 ≤ p ∧ p ≤ 9999
  · rw [if_pos cc, if_pos cc, bx_inl, c_sea cc.1 (by omega), bc_some]
  · rw [if_neg cc, if_neg cc]
    rfl
theorem x_seaByHours {p : Int} (hp : int' p) (hN2 : 100000 ≤ N) : P_F_seaLevelByHours Θ N h f (J p) = if 0 ≤ p ∧ p ≤ 9999 then some (.inl (J (sea p)), h) else some (.inr 11, h ++ [oB 11 []]) := by
  unfold P_F_seaLevelByHours
  rw [c_checkHour hp.1 hp.2]
  by_cases cc : 0 ≤ p ∧ p ≤ 9999
  · rw [if_pos cc, if_pos cc, bx_inl, c_byHours cc.1 (by omega) (by omega), bc_some]
  · rw [if_neg cc, if_neg cc]
    rfl
theorem x_levelAfter {p : Int} (hp : int' p) (hN : 2000 ≤ N) (c0 : 0 ≤ c) (c1 : c ≤ 2000) (w : KX Θ f c h S bO) : P_F_levelAfter Θ N h f (J p) = if 0 ≤ p ∧ p ≤ 96 then some (.inl (J (lva (S 1) p.toNat)), h) else some (.inr 11, h ++ [oB 11 []]) := by
  obtain ⟨b, D, r0, hs, hd, I, -, -⟩ := w.now
  have d := c_foreseen (N := N) hN hs.1 hd I (by omega) hp.1 hp.2
  rw [hs.hd, ex_hd hs] at d
  unfold P_F_levelAfter
  rw [r0, bo_some, gO1 hs, d]
  by_cases cc : 0 ≤ p ∧ p ≤ 96
  · rw [if_pos cc]; rfl
  · rw [if_neg cc]; rfl
theorem x_hoursUntil {p : Int} (hp : int' p) (hN : 2000 ≤ N) (c0 : 0 ≤ c) (c1 : c ≤ 2000) (w : KX Θ f c h S bO) : P_F_hoursUntilAfloat Θ N h f (J p) = if fnd (S 1) p (mny (S 1)) = -1 then some (.inr 10, h ++ [oB 10 []]) else if fd (S 1) (fnd (S 1) p (mny (S 1))) 4 = -1 ∨ fd (S 1) (fnd (S 1) p (mny (S 1))) 2 ≤ S 1 1 then some (.inl (J 0), h) else if hgo (S 1) (fnd (S 1) p (mny (S 1))) 96 1 = -1 then some (.inr 12, h ++ [oB 12 []]) else some (.inl (J (hgo (S 1) (fnd (S 1) p (mny (S 1))) 96 1)), h) := by
  obtain ⟨b, D, r0, hs, hd, I, -, -⟩ := w.now
  have d := c_until (N := N) hN hs.1 hd I (by omega) hp.1 hp.2
  rw [hs.hd, ex_hd hs, ex_hd hs] at d
  unfold P_F_hoursUntilAfloat
  rw [r0, bo_some, gO1 hs, d]
  by_cases cc : fnd (S 1) p (mny (S 1)) = -1
  · rw [if_pos cc]; rfl
  · rw [if_neg cc]
    by_cases c2 : fd (S 1) (fnd (S 1) p (mny (S 1))) 4 = -1 ∨ fd (S 1) (fnd (S 1) p (mny (S 1))) 2 ≤ S 1 1
    · rw [if_pos c2]; rfl
    · rw [if_neg c2]
      by_cases c3 : hgo (S 1) (fnd (S 1) p (mny (S 1))) 96 1 = -1
      · rw [if_pos c3]; rfl
      · rw [if_neg c3]; rfl
theorem x_hasBlock {p : Int} (hp : int' p) (hN : 2000 ≤ N) (w : KX Θ f c h S bO) : P_F_hasBlock Θ N h f (J p) = if 0 ≤ p ∧ p ≤ 59 then some (.inl (J (if S 1 (80 + p) = 1 then 1 else 0)), h) else some (.inr 11, h ++ [oB 11 []]) := by
  obtain ⟨b, D, r0, hs, hd, I, -, -⟩ := w.now
  unfold P_F_hasBlock
  rw [c_checkPos hp.1 hp.2]
  by_cases cc : 0 ≤ p ∧ p ≤ 59
  · have d := c_isAt (N := N) hN hs.1 hd I (p := p) (by omega) (by omega)
    rw [hs.hd] at d
    rw [if_pos cc, if_pos cc, bx_inl, r0, bo_some, rA11 hs, bo_some, gO4 hs, d, bc_some, fin_b (by split <;> simp)]
  · rw [if_neg cc, if_neg cc]
    rfl
theorem x_beneath {i : Int} (hi : int' i) (hN : 2000 ≤ N) (w : KX Θ f c h S bO) : P_F_blocksBeneath Θ N h f (J i) = if fnd (S 1) i (mny (S 1)) = -1 then some (.inr 10, h ++ [oB 10 []]) else some (.inl (J (bnt (S 1) (fnd (S 1) i (mny (S 1))) 60)), h) := by
  obtain ⟨b, D, r0, hs, hd, I, -, -⟩ := w.now
  have h4 := I.h4
  unfold P_F_blocksBeneath
  rw [r0, bo_some, rA11 hs, bo_some, bo_some, rA10 hs, bo_some, gO2 hs, h_known hN hs hd I hi]
  by_cases cc : fnd (S 1) i (mny (S 1)) = -1
  · rw [if_pos cc, if_pos cc]
    rfl
  · have fl := fnd_lt I cc
    have d := c_byMetres (N := N) hN hs.1 hd I fl.1 fl.2
    rw [hs.hd] at d
    rw [if_neg cc, if_neg cc, bx_inl, gO4 hs, d, bc_some]
    by_cases z : fd (S 1) (fnd (S 1) i (mny (S 1))) 4 = -1
    · rw [if_neg (by simp [z]), bnt_out I fl.1 fl.2 z]
    · rw [if_pos z]
theorem x_beneathB {i : Int} (hi : int' i) (hN : 2000 ≤ N) (w : KX Θ f c h S bO) : P_F_blocksBeneathByBlocks Θ N h f (J i) = if fnd (S 1) i (mny (S 1)) = -1 then some (.inr 10, h ++ [oB 10 []]) else some (.inl (J (bnt (S 1) (fnd (S 1) i (mny (S 1))) 60)), h) := by
  obtain ⟨b, D, r0, hs, hd, I, -, -⟩ := w.now
  have h4 := I.h4
  unfold P_F_blocksBeneathByBlocks
  rw [r0, bo_some, rA11 hs, bo_some, bo_some, rA10 hs, bo_some, gO2 hs, h_known hN hs hd I hi]
  by_cases cc : fnd (S 1) i (mny (S 1)) = -1
  · rw [if_pos cc, if_pos cc]
    rfl
  · have fl := fnd_lt I cc
    have d := c_byBlocks (N := N) hN hs.1 hd I fl.1 fl.2
    rw [hs.hd] at d
    rw [if_neg cc, if_neg cc, bx_inl, gO4 hs, d, bc_some]
theorem atk_le (I : In c V) {p : Int} : -1 ≤ at' V p ∧ at' V p < V 4 := by
  have h4 := I.h4
  have := atm_le (V := V) (p := p) (mny V)
  unfold at'
  have e : (mny V : Int) = V 4 := by unfold mny; omega
  omega
theorem x_shipAtPos {p : Int} (hp : int' p) (hN : 2000 ≤ N) (w : KX Θ f c h S bO) : P_F_shipAtPosition Θ N h f (J p) = if 0 ≤ p ∧ p ≤ 59 then (if at' (S 1) p = -1 then some (.inr 10, h ++ [oB 10 []]) else some (.inl (J (fd (S 1) (at' (S 1) p) 0)), h)) else some (.inr 11, h ++ [oB 11 []]) := by
  obtain ⟨b, D, r0, hs, hd, I, -, -⟩ := w.now
  have h4 := I.h4
  unfold P_F_shipAtPosition
  rw [c_checkPos hp.1 hp.2]
  by_cases cc : 0 ≤ p ∧ p ≤ 59
  · have d := c_overlapping (N := N) hN hs.1 hd I (a := p) (l := 1) (by omega) (by omega) (by omega) (by omega)
    rw [hs.hd, ovf_at I] at d
    rw [if_pos cc, if_pos cc, bx_inl, r0, bo_some, rA10 hs, bo_some, gO2 hs, d]
    by_cases c2 : at' (S 1) p = -1
    · rw [if_pos c2, if_pos c2]
      rfl
    · have al := atk_le I (p := p)
      rw [if_neg c2, if_neg c2, bn_some, n_0 hs hd h4.2 (by omega) (by omega), bo_some]
  · rw [if_neg cc, if_neg cc]
    rfl
theorem x_gap1 {l : Int} (hl : int' l) (hN : 2000 ≤ N) (w : KX Θ f c h S bO) : P_F_firstGap Θ N h f (J l) = if 1 ≤ l ∧ l ≤ 60 then (if gpf (S 1) l (62 - l).toNat 0 = -1 then some (.inr 10, h ++ [oB 10 []]) else some (.inl (J (gpf (S 1) l (62 - l).toNat 0)), h)) else some (.inr 11, h ++ [oB 11 []]) := by
  obtain ⟨b, D, r0, hs, hd, I, -, -⟩ := w.now
  unfold P_F_firstGap
  rw [c_checkGap hl.1 hl.2]
  by_cases cc : 1 ≤ l ∧ l ≤ 60
  · have d := c_gapPos (N := N) hN hs.1 hd I cc.1 cc.2
    rw [hs.hd] at d
    rw [if_pos cc, if_pos cc, bx_inl, r0, bo_some, rA10 hs, bo_some, gO2 hs, d, bc_some]
    unfold P_F_foundGap
    have gr := gpf_rng (V := S 1) (l := l) (by omega) (62 - l).toNat 0 (by omega)
    by_cases c2 : gpf (S 1) l (62 - l).toNat 0 = -1
    · rw [if_pos (by rw [c2]), if_pos c2]
      rfl
    · rw [if_neg (by rw [J_eq] <;> omega), if_neg c2, bx_inl]
  · rw [if_neg cc, if_neg cc]
    rfl
theorem x_gap2 {l : Int} (hl : int' l) (hN : 2000 ≤ N) (w : KX Θ f c h S bO) : P_F_firstGapByShips Θ N h f (J l) = if 1 ≤ l ∧ l ≤ 60 then (if gpf (S 1) l (62 - l).toNat 0 = -1 then some (.inr 10, h ++ [oB 10 []]) else some (.inl (J (gpf (S 1) l (62 - l).toNat 0)), h)) else some (.inr 11, h ++ [oB 11 []]) := by
  obtain ⟨b, D, r0, hs, hd, I, -, -⟩ := w.now
  unfold P_F_firstGapByShips
  rw [c_checkGap hl.1 hl.2]
  by_cases cc : 1 ≤ l ∧ l ≤ 60
  · have d := c_gapShips (N := N) hN hs.1 hd I cc.1 cc.2
    rw [hs.hd] at d
    rw [if_pos cc, if_pos cc, bx_inl, r0, bo_some, rA10 hs, bo_some, gO2 hs, d, bc_some]
    unfold P_F_foundGap
    have gr := gpf_rng (V := S 1) (l := l) (by omega) (62 - l).toNat 0 (by omega)
    by_cases c2 : gpf (S 1) l (62 - l).toNat 0 = -1
    · rw [if_pos (by rw [c2]), if_pos c2]
      rfl
    · rw [if_neg (by rw [J_eq] <;> omega), if_neg c2, bx_inl]
  · rw [if_neg cc, if_neg cc]
    rfl
theorem x_shipAtRank {p : Int} (hp : int' p) (hN : 2000 ≤ N) (w : KX Θ f c h S bO) : P_F_shipAtRank Θ N h f (J p) = if rkx (S 1) p (mny (S 1)) 0 = -1 then some (.inr 14, h ++ [oB 14 []]) else some (.inl (J (fd (S 1) (rkx (S 1) p (mny (S 1)) 0) 0)), h) := by
  obtain ⟨b, D, r0, hs, hd, I, -, -⟩ := w.now
  have h4 := I.h4
  have d := c_ranked (N := N) hN hs.1 hd I hp.1 hp.2
  rw [hs.hd] at d
  unfold P_F_shipAtRank
  rw [r0, bo_some, rA10 hs, bo_some, gO2 hs, d]
  have rr := rkx_rng (V := S 1) (x := p) (mny (S 1)) 0 (by omega)
  by_cases c2 : rkx (S 1) p (mny (S 1)) 0 = -1
  · rw [if_pos c2, if_pos c2]
    rfl
  · have rq : 0 ≤ rkx (S 1) p (mny (S 1)) 0 ∧ rkx (S 1) p (mny (S 1)) 0 < S 1 4 := by
      unfold mny at rr c2 ⊢
      omega
    rw [if_neg c2, if_neg c2, bn_some, n_0 hs hd h4.2 rq.1 rq.2, bo_some]
/-! what fits -/
/-- the packing's cells; the line's -/
def FTW (Θ : mW) (f : Nat) (h : mH) : Prop := ∃ G, HB Θ shG (f + 146) G h
theorem x_fit1 (hN : 2000 ≤ N) (w : KX Θ f c h S bO) (g : FTW Θ f h) : ∃ v h2, P_F_mostFitting Θ N h f = some (J v, h2) ∧ isC (wlist (S 1) (mny (S 1))) (gps (S 1)) v ∧ KX Θ f c h2 S bO ∧ FTW Θ f h2 ∧ Nx Θ h h2 (fun x => f + 146 ≤ x ∧ x < f + 151) 0 0 := by
  obtain ⟨G, hg⟩ := g
  obtain ⟨b, v, G', h2, a1, a2, a3, a4, a5, a6, a7⟩ := k_most (op := fun h => P_G_mostByTrying Θ N h) w hg (fun b D hb hs hx hd I => c_mostTry (N := N) hN hb hs hx hd I)
  refine ⟨v, h2, ?_, a4, a5, ⟨G', a6⟩, a7⟩
  unfold P_F_mostFitting
  rw [w.r5, bo_some, a1, bo_some, a2, a3, bc_some]
theorem x_fit2 (hN : 2000 ≤ N) (w : KX Θ f c h S bO) (g : FTW Θ f h) : ∃ v h2, P_F_mostFittingByTable Θ N h f = some (J v, h2) ∧ isC (wlist (S 1) (mny (S 1))) (gps (S 1)) v ∧ KX Θ f c h2 S bO ∧ FTW Θ f h2 ∧ Nx Θ h h2 (fun x => f + 146 ≤ x ∧ x < f + 151) 0 0 := by
  obtain ⟨G, hg⟩ := g
  obtain ⟨b, v, G', h2, a1, a2, a3, a4, a5, a6, a7⟩ := k_most (op := fun h => P_G_mostByTable Θ N h) w hg (fun b D hb hs hx hd I => c_mostTable (N := N) hN hb hs hx hd I)
  refine ⟨v, h2, ?_, a4, a5, ⟨G', a6⟩, a7⟩
  unfold P_F_mostFittingByTable
  rw [w.r5, bo_some, a1, bo_some, a2, a3, bc_some]
theorem x_fit3 (hN : 2000 ≤ N) (w : KX Θ f c h S bO) (g : FTW Θ f h) : ∃ v h2, P_F_mostFittingMetres Θ N h f = some (J v, h2) ∧ isM (wlist (S 1) (mny (S 1))) (gps (S 1)) v ∧ KX Θ f c h2 S bO ∧ FTW Θ f h2 ∧ Nx Θ h h2 (fun x => f + 146 ≤ x ∧ x < f + 151) 0 0 := by
  obtain ⟨G, hg⟩ := g
  obtain ⟨b, v, G', h2, a1, a2, a3, a4, a5, a6, a7⟩ := k_most (op := fun h => P_G_mostMetres Θ N h) w hg (fun b D hb hs hx hd I => c_mostMetres (N := N) hN hb hs hx hd I)
  refine ⟨v, h2, ?_, a4, a5, ⟨G', a6⟩, a7⟩
  unfold P_F_mostFittingMetres
  rw [w.r5, bo_some, a1, bo_some, a2, a3, bc_some]
theorem x_cons (hN2 : 100000 ≤ N) (c0 : 0 ≤ c) (c1 : c ≤ 2000) (w : KX Θ f c h S bO) (g : FTW Θ f h) : ∃ h2, P_F_isConsistent Θ N h f = some (J 1, h2) ∧ KX Θ f c h2 S bO ∧ FTW Θ f h2 ∧ Nx Θ h h2 (fun x => f + 146 ≤ x ∧ x < f + 151) 0 0 := by
  have hN : 2000 ≤ N := by omega
  obtain ⟨G, hg⟩ := g
  obtain ⟨b, D, r0, hs, hd, I, -, -⟩ := w.now
  have i0 := I.h0
  have w1 := c_waysAgree (N := N) hN hs.1 hd I
  have w2 := c_gapsAgree (N := N) hN hs.1 hd I
  rw [hs.hd] at w1 w2
  obtain ⟨b1, v1, G1, h1, a1, a2, a3, a4, a5, a6, a7⟩ := k_most (op := fun h => P_G_mostByTrying Θ N h) w hg (fun b D hb hs hx hd I => c_mostTry (N := N) hN hb hs hx hd I)
  obtain ⟨b2, v2, G2, h2, e1, e2, e3, e4, e5, e6, e7⟩ := k_most (op := fun h => P_G_mostByTable Θ N h) a5 a6 (fun b D hb hs hx hd I => c_mostTable (N := N) hN hb hs hx hd I)
  have ev := isC_eq a4 e4
  obtain ⟨b3, D3, t0, ts, td, I3, -, -⟩ := e5.now
  have bs := h_billSum (N := N) hN ts td I3
  have ba := h_accounts (N := N) ts td
  have bo := c_hasOverlap (N := N) hN ts.1 td I3
  rw [ts.hd] at bo
  have h7 := I3.h7
  refine ⟨h2, ?_, e5, ⟨G2, e6⟩, (a7.trans e7).up (by omega) (by omega)⟩
  unfold P_F_isConsistent
  rw [r0, bo_some, n_hou hs hd, bo_some, c_agrees i0.1 (by omega) (by omega) hN, bc_some, if_neg (show ¬ J 1 = (0 : Int32) by decide), r0, bo_some, rA11 hs, bo_some, bo_some, rA10 hs, bo_some, gO4 hs, w1, bc_some, if_neg (show ¬ J 1 = (0 : Int32) by decide), r0, bo_some, rA10 hs, bo_some, gO2 hs, w2, bc_some, if_neg (show ¬ J 1 = (0 : Int32) by decide), w.r5, bo_some, a1, bo_some, a2]
  refine (congrArg (fun q => bc q _) a3).trans ?_
  rw [bc_some, a5.r5, bo_some, e1, bo_some, e2]
  refine (congrArg (fun q => bc q _) e3).trans ?_
  rw [bc_some, if_pos (by rw [ev]), t0, bo_some, rA10 ts, bo_some, gO2 ts, bs, bc_some, t0, bo_some, gO1 ts, ba, bc_some, if_pos (by rw [← h7.2.2]), t0, bo_some, rA10 ts, bo_some, gO2 ts, bo, bc_some]
  rfl
/-! shares -/
theorem x_share (hN : 2000 ≤ N) (w : KX Θ f c h S bO) : P_F_takenShare Θ N h f = some (FP.fdiv (FP.i2f (J (60 - frm (S 1) 60))) 1114636288, h) := by
  obtain ⟨b, D, r0, hs, hd, I, -, -⟩ := w.now
  have t := tkn_frm I
  have nn := ff_nn (s := J (60 - frm (S 1) 60))
  unfold P_F_takenShare
  rw [r0, bo_some, rA10 hs, bo_some, gO2 hs, h_taken hN hs hd I, bc_some, ← t]
  exact if_pos (vn32 nn)
theorem x_mean (hN : 2000 ≤ N) (w : KX Θ f c h S bO) (cc : ¬ S 1 4 = 0) : P_F_meanDirt Θ N h f = some (.inl (FP.ddiv (FP.i2d (J (smm (S 1) 3 (mny (S 1))))) (FP.i2d (J (S 1 4)))), h) := by
  obtain ⟨b, D, r0, hs, hd, I, -, -⟩ := w.now
  have h4 := I.h4
  have d := c_dirtSum (N := N) hN hs.1 hd I
  rw [hs.hd] at d
  have nn := dd_nn (s := smm (S 1) 3 (mny (S 1))) (n := S 1 4) (by omega) (by omega)
  unfold P_F_meanDirt
  rw [r0, bo_some, rA10 hs, bo_some, n_cnt hs hd, bo_some, if_neg (by rw [J_eq0] <;> omega), bo_some, rA10 hs, bo_some, gO2 hs, d, bc_some, r0, bo_some, rA10 hs, bo_some, n_cnt hs hd, bo_some]
  exact if_pos (vn64 nn)
/-! save, restore -/
theorem x_save (hN : 2000 ≤ N) (w : KX Θ f c h S bO) : ∃ h2 S2, P_F_save Θ N h f = some (J (S 1 4), h2) ∧ KX Θ f c h2 S2 (fun _ => False) ∧ Nx Θ h h2 (KR f) 0 0 ∧ S2 1 = S 1 ∧ S2 0 4 = 1 ∧ ∀ j : Int, 0 ≤ j → j < 140 → S2 3 j = S 1 j := by
  obtain ⟨h2, a1, a2, a3⟩ := k_save (N := N) hN w
  refine ⟨h2, (savR S).2, a1, a2, a3, ?_, ?_, fun j j0 j1 => ?_⟩
  · exact savR_r (by decide) (by decide)
  · rw [savR_0, if_pos rfl]
  · show up2 (cpy (T13 S 0) 1 0 3 0 140) 0 4 1 3 j = S 1 j
    rw [up2_row (by decide), cpy_at, if_pos (by omega), T13_1]
    exact congrArg (S 1) (by omega)
/-- all is taken back: calls are counted anew -/
theorem KX.low {c2 : Int} (w : KX Θ f c h S (fun _ => False)) (h5 : S 0 5 = 0) (i1 : In c2 (S 1)) (i3 : S 0 4 = 1 → ∀ D, NV c D (S 3) → NV c2 D (S 3)) : KX Θ f c2 h S (fun _ => False) := by
  obtain ⟨a, b, r, x, F, E, Q, k1, k2, k3, k4, k5⟩ := w
  obtain ⟨e1, e2, e3, e4, e5, e6⟩ := k5
  exact ⟨a, b, r, x, F, E, Q, k1, k2, k3, k4, e1, ⟨e2.1, i1⟩, fun B hB => hB.elim, fun e q0 q1 => by omega, e5, fun q => i3 q _ (e6 q)⟩
theorem x_restore (hN : 2000 ≤ N) (w : KX Θ f c h S bO) (h4 : S 0 4 = 1) {c2 : Int} {U : Int → Int} (iU : In c2 U) (eU : ∀ j : Int, 0 ≤ j → j < 140 → S 3 j = U j) (ok : ∀ j, -100000000 ≤ S 1 j ∧ S 1 j ≤ 100000000) : ∃ h2 S2, P_F_restore Θ N h f = some (.inl (J (U 4)), h2) ∧ KX Θ f c2 h2 S2 (fun _ => False) ∧ Nx Θ h h2 (KR f) 0 0 ∧ (∀ j : Int, 0 ≤ j → j < 140 → S2 1 j = U j) := by
  obtain ⟨h2, a1, a2, a3⟩ := k_restore (N := N) hN w h4
  have n4 : ¬ S 0 4 = 0 := by omega
  have e1 : ∀ j : Int, 0 ≤ j → j < 140 → (rstR S).2 1 j = U j := fun j j0 j1 => by
    unfold rstR
    rw [if_neg n4]
    show up2 (cpy (T13 S 0) 3 0 1 0 140) 0 5 0 1 j = U j
    rw [up2_row (by decide), cpy_at, if_pos (by omega), T13_o (by decide), ← eU j j0 j1]
    exact congrArg (S 3) (by omega)
  have e5 : (rstR S).2 0 5 = 0 := by rw [rstR_0 n4, if_pos rfl]
  have e3 : (rstR S).2 3 = S 3 := rstR_r n4 (by decide) (by decide)
  refine ⟨h2, (rstR S).2, ?_, ?_, a3, e1⟩
  · rw [a1, eU 4 (by omega) (by omega)]
  · refine a2.low e5 (iU.cong (a2.ok.1.ok) (fun j j0 j1 => (e1 j j0 j1).symm)) (fun _ D q => ?_)
    rw [e3] at q ⊢
    obtain ⟨V, v1, v2, v3⟩ := q
    exact ⟨V, v1, iU.cong v2.ok (fun j j0 j1 => by rw [v3 j j0 j1, eU j j0 j1]), v3⟩
end QU
