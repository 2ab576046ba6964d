/-! the questions of the face, on -/
section QB
variable {Θ : mW} {N f b : Nat} {c k : Int} {S S' S2 : Nat → Int → Int} {h h2 : mH} {tb : Int → Nat} {vp : Int → Prop} {bO : (Int → Int) → Prop} {D G : Nat → Int → Int} {V : Int → Int}
theorem o_refusal (ww : ZW Θ f k h S S) : OQ Θ f k h S (tbl [10]) (fun _ => True) (P_F_refusalReason Θ N h f) (fun hh => P_R_refusalReason Θ N hh (f + 157)) := by
  have n := ww.2.2.2.1.2.2.1
  have q : ∀ h2, bOK Θ 9 (f + 157) h2 → _ := fun h2 hb => q_refusalReason (N := N) (S := S) (h := h2) hb n.1 n.2
  have e : P_F_refusalReason Θ N h f = P_F_refusalReason Θ N h f := rfl
  conv at e =>
    rhs
    unfold P_F_refusalReason
    rw [ww.1.r8, bo_some]
  unfold krf at e
  by_cases cc : S 0 8 = 0
  · simp only [if_pos cc] at q e
    exact q_ex ww (T := 1) (by omega) (by omega) rfl e q
  · simp only [if_neg cc] at q e
    rw [if_neg (by rw [J_eq] <;> omega), bo_some] at e
    exact q_ok ww e q trivial
theorem o_errorPos (ww : ZW Θ f k h S S) : OQ Θ f k h S (tbl [10]) (fun _ => True) (P_F_errorPosition Θ N h f) (fun hh => P_R_errorPosition Θ N hh (f + 157)) := by
  have n := ww.2.2.2.1.2.2.2.1
  have q : ∀ h2, bOK Θ 9 (f + 157) h2 → _ := fun h2 hb => q_errorPosition (N := N) (S := S) (h := h2) hb n.1 n.2
  have e : P_F_errorPosition Θ N h f = P_F_errorPosition Θ N h f := rfl
  conv at e =>
    rhs
    unfold P_F_errorPosition
    rw [ww.1.r9, bo_some]
  by_cases cc : S 0 6 = -1
  · simp only [if_pos cc] at q
    rw [if_pos (by rw [cc])] at e
    exact q_ex ww (T := 1) (by omega) (by omega) rfl e q
  · simp only [if_neg cc] at q
    rw [if_neg (by rw [J_eq] <;> omega), bo_some] at e
    exact q_ok ww e q trivial
theorem o_failedCom (ww : ZW Θ f k h S S) : OQ Θ f k h S (tbl [10]) (fun _ => True) (P_F_failedCommand Θ N h f) (fun hh => P_R_failedCommand Θ N hh (f + 157)) := by
  have n := ww.2.2.2.1.2.2.2.2
  have q : ∀ h2, bOK Θ 9 (f + 157) h2 → _ := fun h2 hb => q_failedCommand (N := N) (S := S) (h := h2) hb n.1 n.2
  have e : P_F_failedCommand Θ N h f = P_F_failedCommand Θ N h f := rfl
  conv at e =>
    rhs
    unfold P_F_failedCommand
    rw [ww.1.r10, bo_some]
  by_cases cc : S 0 7 = -1
  · simp only [if_pos cc] at q
    rw [if_pos (by rw [cc])] at e
    exact q_ex ww (T := 1) (by omega) (by omega) rfl e q
  · simp only [if_neg cc] at q
    rw [if_neg (by rw [J_eq] <;> omega), bo_some] at e
    exact q_ok ww e q trivial
theorem o_seaLevel {p : Int} (hp : int' p) (ww : ZW Θ f k h S S) : OQ Θ f k h S (tbl [11]) (fun _ => True) (P_F_seaLevel Θ N h f (J p)) (fun hh => P_R_seaLevel Θ N hh (f + 157) (J p)) := by
  have q : ∀ h2, bOK Θ 9 (f + 157) h2 → _ := fun h2 hb => q_sea (N := N) (S := S) (h := h2) hb hp.1 hp.2
  have e : P_F_seaLevel Θ N h f (J p) = P_F_seaLevel Θ N h f (J p) := rfl
  conv at e =>
    rhs
    unfold P_F_seaLevel
    rw [c_checkHour hp.1 hp.2]
  by_cases cc : 0 ≤ p ∧ p ≤ 9999
  · simp only [if_pos cc] at q e
    rw [bx_inl, c_sea cc.1 (by omega), bc_some] at e
    refine q_ok ww e (fun h2 hb => ?_) trivial
    unfold P_R_seaLevel
    rw [r_O hb, q h2 hb, bc_some]
  · simp only [if_neg cc] at q e
    refine q_ex ww (T := 1) (by omega) (by omega) rfl e (fun h2 hb => ?_)
    unfold P_R_seaLevel
    rw [r_O hb, q h2 hb, bc_some]
theorem o_seaByHours {p : Int} (hp : int' p) (hN2 : 100000 ≤ N) (ww : ZW Θ f k h S S) : OQ Θ f k h S (tbl [11]) (fun _ => True) (P_F_seaLevelByHours Θ N h f (J p)) (fun hh => P_R_seaLevelByHours Θ N hh (f + 157) (J p)) := by
  have q : ∀ h2, bOK Θ 9 (f + 157) h2 → _ := fun h2 hb => q_sea (N := N) (S := S) (h := h2) hb hp.1 hp.2
  have e : P_F_seaLevelByHours Θ N h f (J p) = P_F_seaLevelByHours Θ N h f (J p) := rfl
  conv at e =>
    rhs
    unfold P_F_seaLevelByHours
    rw [c_checkHour hp.1 hp.2]
  by_cases cc : 0 ≤ p ∧ p ≤ 9999
  · simp only [if_pos cc] at q e
    rw [bx_inl, c_byHours cc.1 (by omega) (by omega), bc_some] at e
    refine q_ok ww e (fun h2 hb => ?_) trivial
    unfold P_R_seaLevelByHours
    rw [r_O hb, q h2 hb, bc_some]
  · simp only [if_neg cc] at q e
    refine q_ex ww (T := 1) (by omega) (by omega) rfl e (fun h2 hb => ?_)
    unfold P_R_seaLevelByHours
    rw [r_O hb, q h2 hb, bc_some]
theorem o_levelAfter {p : Int} (hp : int' p) (hN : 2000 ≤ N) (hk : k ≤ 1000) (ww : ZW Θ f k h S S) : OQ Θ f k h S (tbl [11]) (fun _ => True) (P_F_levelAfter Θ N h f (J p)) (fun hh => P_R_levelAfter Θ N hh (f + 157) (J p)) := by
  obtain ⟨b, D, r0, hs, hd, I, -, -⟩ := ww.1.now
  have n := ww.2.2.2.1.1
  have i0 := I.h0
  have i1 := I.h1
  have q : ∀ h2, bOK Θ 9 (f + 157) h2 → _ := fun h2 hb => q_levelAfter (N := N) (S := S) (h := h2) hN hb (Inv.ok I) i0.1 (by omega) i1.1 i1.2 hp.1 hp.2
  have d := c_foreseen (N := N) hN hs.1 hd I (by omega) hp.1 hp.2
  rw [hs.hd, ex_hd hs] at d
  have e : P_F_levelAfter Θ N h f (J p) = P_F_levelAfter Θ N h f (J p) := rfl
  conv at e =>
    rhs
    unfold P_F_levelAfter
    rw [r0, bo_some, gO1 hs, d]
  by_cases cc : 0 ≤ p ∧ p ≤ 96
  · simp only [if_pos cc] at q e
    exact q_ok ww e q trivial
  · simp only [if_neg cc] at q e
    exact q_ex ww (T := 1) (by omega) (by omega) rfl e q
theorem o_hoursUntil {p : Int} (hp : int' p) (hN : 2000 ≤ N) (hk : k ≤ 1000) (ww : ZW Θ f k h S S) : OQ Θ f k h S (tbl [10, 12]) (fun _ => True) (P_F_hoursUntilAfloat Θ N h f (J p)) (fun hh => P_R_hoursUntilAfloat Θ N hh (f + 157) (J p)) := by
  obtain ⟨b, D, r0, hs, hd, I, -, -⟩ := ww.1.now
  have n := ww.2.2.2.1.1
  have i0 := I.h0
  have i1 := I.h1
  have q : ∀ h2, bOK Θ 9 (f + 157) h2 → _ := fun h2 hb => q_hoursUntilAfloat (N := N) (S := S) (h := h2) hN hb (Inv.ok I) i0.1 (by omega) i1.1 i1.2 hp.1 hp.2
  have d := c_until (N := N) hN hs.1 hd I (by omega) hp.1 hp.2
  rw [hs.hd, ex_hd hs, ex_hd hs] at d
  have e : P_F_hoursUntilAfloat Θ N h f (J p) = P_F_hoursUntilAfloat Θ N h f (J p) := rfl
  conv at e =>
    rhs
    unfold P_F_hoursUntilAfloat
    rw [r0, bo_some, gO1 hs, d]
  by_cases cc : fnd (S 1) p (mny (S 1)) = -1
  · simp only [if_pos cc] at q e
    exact q_ex ww (T := 1) (by omega) (by omega) rfl e q
  · simp only [if_neg cc] at q e
    by_cases c2 : fd (S 1) (fnd (S 1) p (mny (S 1))) 4 = -1 ∨ fd (S 1) (fnd (S 1) p (mny (S 1))) 2 ≤ S 1 1
    · simp only [if_pos c2] at q e
      exact q_ok ww e q trivial
    · simp only [if_neg c2] at q e
      by_cases c3 : hgo (S 1) (fnd (S 1) p (mny (S 1))) 96 1 = -1
      · simp only [if_pos c3] at q e
        exact q_ex ww (T := 2) (by omega) (by omega) rfl e q
      · simp only [if_neg c3] at q e
        exact q_ok ww e q trivial
theorem o_hasBlock {p : Int} (hp : int' p) (hN : 2000 ≤ N) (ww : ZW Θ f k h S S) : OQ Θ f k h S (tbl [11]) (fun v => v = 0 ∨ v = 1) (P_F_hasBlock Θ N h f (J p)) (fun hh => P_R_hasBlock Θ N hh (f + 157) (J p)) := by
  obtain ⟨b, D, r0, hs, hd, I, -, -⟩ := ww.1.now
  have q : ∀ h2, bOK Θ 9 (f + 157) h2 → _ := fun h2 hb => q_hasBlock (N := N) (S := S) (h := h2) hb (Inv.ok I) hp.1 hp.2
  have e : P_F_hasBlock Θ N h f (J p) = P_F_hasBlock Θ N h f (J p) := rfl
  conv at e =>
    rhs
    unfold P_F_hasBlock
    rw [c_checkPos hp.1 hp.2]
  by_cases cc : 0 ≤ p ∧ p ≤ 59
  · simp only [if_pos cc] at q e
    have d := c_isAt (N := N) hN hs.1 hd I (p := p) (by omega) (by omega)
    rw [hs.hd] at d
    rw [bx_inl, r0, bo_some, rA11 hs, bo_some, gO4 hs, d, bc_some, fin_b (by split <;> simp)] at e
    exact q_ok ww e q (by split <;> simp)
  · simp only [if_neg cc] at q e
    exact q_ex ww (T := 1) (by omega) (by omega) rfl e q
theorem o_beneath {i : Int} (hi : int' i) (hN : 2000 ≤ N) (ww : ZW Θ f k h S S) : OQ Θ f k h S (tbl [10]) (fun _ => True) (P_F_blocksBeneath Θ N h f (J i)) (fun hh => P_R_blocksBeneath Θ N hh (f + 157) (J i)) := by
  obtain ⟨b, D, r0, hs, hd, I, -, -⟩ := ww.1.now
  have h4 := I.h4
  have q : ∀ h2, bOK Θ 9 (f + 157) h2 → _ := fun h2 hb => q_asksBeneath (N := N) (S := S) (h := h2) hN hb (Inv.ok I) hi.1 hi.2
  have e : P_F_blocksBeneath Θ N h f (J i) = P_F_blocksBeneath Θ N h f (J i) := rfl
  conv at e =>
    rhs
    unfold P_F_blocksBeneath
    rw [r0, bo_some, rA11 hs, bo_some, bo_some, rA10 hs, bo_some, gO2 hs, h_known hN hs hd I hi]
  by_cases cc : fnd (S 1) i (mny (S 1)) = -1
  · simp only [if_pos cc] at q e
    refine q_ex ww (T := 1) (by omega) (by omega) rfl e (fun h2 hb => ?_)
    unfold P_R_blocksBeneath
    rw [r_O hb, q h2 hb, bc_some]
  · simp only [if_neg cc] at q e
    have fl := fnd_lt I cc
    have d := c_byMetres (N := N) hN hs.1 hd I fl.1 fl.2
    rw [hs.hd] at d
    rw [bx_inl, gO4 hs, d, bc_some] at e
    refine q_ok ww e (fun h2 hb => ?_) trivial
    unfold P_R_blocksBeneath
    rw [r_O hb, q h2 hb, bc_some]
theorem bnt_out (I : In c V) {q : Int} (q0 : 0 ≤ q) (q1 : q < V 4) (hz : fd V q 4 = -1) : bnt V q 60 = 0 := by
  have g : ∀ n : Nat, n ≤ 60 → bnt V q n = 0 := by
    intro n
    induction n with
    | zero => intro _; rfl
    | succ n ih =>
      intro hn
      rw [bnt, ih (by omega)]
      have na : ¬ at' V (n : Int) = q := fun z => by
        have := (at_iff I q0 q1).mp z
        exact this.1 hz
      simp [na]
  exact g 60 (by omega)
theorem o_beneathB {i : Int} (hi : int' i) (hN : 2000 ≤ N) (ww : ZW Θ f k h S S) : OQ Θ f k h S (tbl [10]) (fun _ => True) (P_F_blocksBeneathByBlocks Θ N h f (J i)) (fun hh => P_R_blocksBeneathByBlocks Θ N hh (f + 157) (J i)) := by
  obtain ⟨b, D, r0, hs, hd, I, -, -⟩ := ww.1.now
  have h4 := I.h4
  have q : ∀ h2, bOK Θ 9 (f + 157) h2 → _ := fun h2 hb => q_asksBeneath (N := N) (S := S) (h := h2) hN hb (Inv.ok I) hi.1 hi.2
  have e : P_F_blocksBeneathByBlocks Θ N h f (J i) = P_F_blocksBeneathByBlocks Θ N h f (J i) := rfl
  conv at e =>
    rhs
    unfold P_F_blocksBeneathByBlocks
    rw [r0, bo_some, rA11 hs, bo_some, bo_some, rA10 hs, bo_some, gO2 hs, h_known hN hs hd I hi]
  by_cases cc : fnd (S 1) i (mny (S 1)) = -1
  · simp only [if_pos cc] at q e
    refine q_ex ww (T := 1) (by omega) (by omega) rfl e (fun h2 hb => ?_)
    unfold P_R_blocksBeneathByBlocks
    rw [r_O hb, q h2 hb, bc_some]
  · simp only [if_neg cc] at q e
    have fl := fnd_lt I cc
    have d := c_byBlocks (N := N) hN hs.1 hd I fl.1 fl.2
    rw [hs.hd] at d
    rw [bx_inl, gO4 hs, d, bc_some] at e
    refine q_ok ww e (fun h2 hb => ?_) trivial
    unfold P_R_blocksBeneathByBlocks
    rw [r_O hb, q h2 hb, bc_some]
    by_cases z : fd (S 1) (fnd (S 1) i (mny (S 1))) 4 = -1
    · rw [if_neg (by simp [z]), bnt_out I fl.1 fl.2 z]
    · rw [if_pos z]
theorem o_shipAtPos {p : Int} (hp : int' p) (hN : 2000 ≤ N) (ww : ZW Θ f k h S S) : OQ Θ f k h S (tbl [11, 10]) (fun _ => True) (P_F_shipAtPosition Θ N h f (J p)) (fun hh => P_R_shipAtPosition Θ N hh (f + 157) (J p)) := by
  obtain ⟨b, D, r0, hs, hd, I, -, -⟩ := ww.1.now
  have h4 := I.h4
  have q : ∀ h2, bOK Θ 9 (f + 157) h2 → _ := fun h2 hb => q_shipAtPosition (N := N) (S := S) (h := h2) hN hb (Inv.ok I) hp.1 hp.2
  have e : P_F_shipAtPosition Θ N h f (J p) = P_F_shipAtPosition Θ N h f (J p) := rfl
  conv at e =>
    rhs
    unfold P_F_shipAtPosition
    rw [c_checkPos hp.1 hp.2]
  by_cases cc : 0 ≤ p ∧ p ≤ 59
  · simp only [if_neg (show ¬ ¬ (0 ≤ p ∧ p ≤ 59) from fun z => z cc)] at q
    simp only [if_pos cc] at e
    have d := c_overlapping (N := N) hN hs.1 hd I (a := p) (l := 1) (by omega) (by omega) (by omega) (by omega)
    rw [hs.hd, ovf_at I] at d
    rw [bx_inl, r0, bo_some, rA10 hs, bo_some, gO2 hs, d] at e
    by_cases c2 : at' (S 1) p = -1
    · simp only [if_pos c2] at q e
      exact q_ex ww (T := 2) (by omega) (by omega) rfl e q
    · simp only [if_neg c2] at q e
      have al := at_le (S := S) (Inv.ok I) (p := p)
      rw [bn_some, n_0 hs hd h4.2 (by omega) (by omega), bo_some] at e
      exact q_ok ww e q trivial
  · simp only [if_pos cc] at q
    simp only [if_neg cc] at e
    exact q_ex ww (T := 1) (by omega) (by omega) rfl e q
theorem gpf_rng {l : Int} (l0 : 0 ≤ l) : ∀ (r : Nat) (a : Int), 0 ≤ a → -1 ≤ gpf V l r a ∧ gpf V l r a ≤ 60
  | 0, a, _ => by rw [gpf]; omega
  | r + 1, a, ha => by
    rw [gpf]
    split
    · omega
    · split
      · omega
      · exact gpf_rng l0 r (a + 1) (by omega)
theorem o_gap1 {l : Int} (hl : int' l) (hN : 2000 ≤ N) (ww : ZW Θ f k h S S) : OQ Θ f k h S (tbl [11, 10]) (fun _ => True) (P_F_firstGap Θ N h f (J l)) (fun hh => P_R_firstGap Θ N hh (f + 157) (J l)) := by
  obtain ⟨b, D, r0, hs, hd, I, -, -⟩ := ww.1.now
  have q : ∀ h2, bOK Θ 9 (f + 157) h2 → _ := fun h2 hb => q_gap (N := N) (S := S) (h := h2) hN hb (Inv.ok I) hl.1 hl.2
  have e : P_F_firstGap Θ N h f (J l) = P_F_firstGap Θ N h f (J l) := rfl
  conv at e =>
    rhs
    unfold P_F_firstGap
    rw [c_checkGap hl.1 hl.2]
  by_cases cc : 1 ≤ l ∧ l ≤ 60
  · simp only [if_neg (show ¬ ¬ (1 ≤ l ∧ l ≤ 60) from fun z => z cc)] at q
    simp only [if_pos cc] at e
    have d := c_gapPos (N := N) hN hs.1 hd I cc.1 cc.2
    rw [hs.hd] at d
    rw [bx_inl, r0, bo_some, rA10 hs, bo_some, gO2 hs, d, bc_some] at e
    unfold P_F_foundGap at e
    have gr := gpf_rng (V := S 1) (l := l) (by omega) (62 - l).toNat 0 (by omega)
    by_cases c2 : gpf (S 1) l (62 - l).toNat 0 = -1
    · simp only [if_pos c2] at q
      rw [if_pos (by rw [c2])] at e
      refine q_ex ww (T := 2) (by omega) (by omega) rfl e (fun h2 hb => ?_)
      unfold P_R_firstGap
      rw [r_O hb, q h2 hb, bc_some]
    · simp only [if_neg c2] at q
      rw [if_neg (by rw [J_eq] <;> omega), bx_inl] at e
      refine q_ok ww e (fun h2 hb => ?_) trivial
      unfold P_R_firstGap
      rw [r_O hb, q h2 hb, bc_some]
  · simp only [if_pos cc] at q
    simp only [if_neg cc] at e
    refine q_ex ww (T := 1) (by omega) (by omega) rfl e (fun h2 hb => ?_)
    unfold P_R_firstGap
    rw [r_O hb, q h2 hb, bc_some]
theorem o_gap2 {l : Int} (hl : int' l) (hN : 2000 ≤ N) (ww : ZW Θ f k h S S) : OQ Θ f k h S (tbl [11, 10]) (fun _ => True) (P_F_firstGapByShips Θ N h f (J l)) (fun hh => P_R_firstGapByShips Θ N hh (f + 157) (J l)) := by
  obtain ⟨b, D, r0, hs, hd, I, -, -⟩ := ww.1.now
  have q : ∀ h2, bOK Θ 9 (f + 157) h2 → _ := fun h2 hb => q_gap (N := N) (S := S) (h := h2) hN hb (Inv.ok I) hl.1 hl.2
  have e : P_F_firstGapByShips Θ N h f (J l) = P_F_firstGapByShips Θ N h f (J l) := rfl
  conv at e =>
    rhs
    unfold P_F_firstGapByShips
    rw [c_checkGap hl.1 hl.2]
  by_cases cc : 1 ≤ l ∧ l ≤ 60
  · simp only [if_neg (show ¬ ¬ (1 ≤ l ∧ l ≤ 60) from fun z => z cc)] at q
    simp only [if_pos cc] at e
    have d := c_gapShips (N := N) hN hs.1 hd I cc.1 cc.2
    rw [hs.hd] at d
    rw [bx_inl, r0, bo_some, rA10 hs, bo_some, gO2 hs, d, bc_some] at e
    unfold P_F_foundGap at e
    have gr := gpf_rng (V := S 1) (l := l) (by omega) (62 - l).toNat 0 (by omega)
    by_cases c2 : gpf (S 1) l (62 - l).toNat 0 = -1
    · simp only [if_pos c2] at q
      rw [if_pos (by rw [c2])] at e
      refine q_ex ww (T := 2) (by omega) (by omega) rfl e (fun h2 hb => ?_)
      unfold P_R_firstGapByShips
      rw [r_O hb, q h2 hb, bc_some]
    · simp only [if_neg c2] at q
      rw [if_neg (by rw [J_eq] <;> omega), bx_inl] at e
      refine q_ok ww e (fun h2 hb => ?_) trivial
      unfold P_R_firstGapByShips
      rw [r_O hb, q h2 hb, bc_some]
  · simp only [if_pos cc] at q
    simp only [if_neg cc] at e
    refine q_ex ww (T := 1) (by omega) (by omega) rfl e (fun h2 hb => ?_)
    unfold P_R_firstGapByShips
    rw [r_O hb, q h2 hb, bc_some]
theorem o_shipAtRank {p : Int} (hp : int' p) (hN : 2000 ≤ N) (ww : ZW Θ f k h S S) : OQ Θ f k h S (tbl [14]) (fun _ => True) (P_F_shipAtRank Θ N h f (J p)) (fun hh => P_R_shipAtRank Θ N hh (f + 157) (J p)) := by
  obtain ⟨b, D, r0, hs, hd, I, -, -⟩ := ww.1.now
  have h4 := I.h4
  have q : ∀ h2, bOK Θ 9 (f + 157) h2 → _ := fun h2 hb => q_shipAtRank (N := N) (S := S) (h := h2) hN hb (Inv.ok I) hp.1 hp.2
  have d := c_ranked (N := N) hN hs.1 hd I hp.1 hp.2
  rw [hs.hd] at d
  rw [rkx_rkf I] at q
  have e : P_F_shipAtRank Θ N h f (J p) = P_F_shipAtRank Θ N h f (J p) := rfl
  conv at e =>
    rhs
    unfold P_F_shipAtRank
    rw [r0, bo_some, rA10 hs, bo_some, gO2 hs, d]
  have rr := rkx_rng (V := S 1) (x := p) (mny (S 1)) 0 (by omega)
  by_cases c2 : rkx (S 1) p (mny (S 1)) 0 = -1
  · simp only [if_pos c2, if_true] at q e
    exact q_ex ww (T := 1) (by omega) (by omega) rfl e q
  · have rq : 0 ≤ rkx (S 1) p (mny (S 1)) 0 ∧ rkx (S 1) p (mny (S 1)) 0 < S 1 4 := by
      unfold mny at rr c2 ⊢
      omega
    have sh := I.sh _ rq.1 rq.2
    unfold shOK at sh
    have nn : ¬ fd (S 1) (rkx (S 1) p (mny (S 1)) 0) 0 = -1 := by omega
    simp only [if_neg c2, if_neg nn] at q e
    rw [bn_some, n_0 hs hd h4.2 rq.1 rq.2, bo_some] at e
    exact q_ok ww e q trivial
end QB
