/-! letting in and out, class and reference side by side -/
section IO
variable {Θ : mW} {N f m b : Nat} {c : Int} {S : Nat → Int → Int} {h : mH} {bO : (Int → Int) → Prop} {D : Nat → Int → Int} {V : Int → Int} {tb : Int → Nat} {vp : Int → Prop} {pc : Option ((Int32 ⊕ Nat) × mH)} {pr : mH → Option (Int32 × mH)}
noncomputable def pcE (Θ : mW) (N f : Nat) (i x : Int32) (h : mH) : Option ((Int32 ⊕ Nat) × mH) := gO Θ h 0 f (P_F_letIn Θ N h f i x)
theorem in_ent {i x : Int} (hi : int' i) (hx : int' x) (hN : 2000 ≤ N) : INN Θ f m (tbl [10, 11, 12, 13]) (fun _ => True) (pcE Θ N f (J i) (J x)) (fun h => P_R_enters Θ N h m (J i) (J x)) := by
  intro c h S bO c0 c1 w
  have I := w.ok.1
  have hO := fun (p : Option ((Int32 ⊕ Nat) × mH)) => w.gO (p := p)
  have hO1 := fun (p : Option ((Unit ⊕ Nat) × mH)) => w.gO (p := p)
  obtain ⟨b, D, r0, hs, hd, -, rng, upd⟩ := (w.mono (c2 := c + 1) (by omega)).now
  have p := c_entry (N := N) hN hs.1 hd I hi.1 hi.2 hx.1 hx.2
  have q : ∀ h2, bOK Θ 9 m h2 → P_R_enters Θ N (HR Θ m S h2) m (J i) (J x) = some (J (entR S i x).1, HR Θ m (entR S i x).2 h2) := fun h2 hb => s_enters hN hb (Inv.ok I) (fun k k0 k1 => by have := I.sh k k0 k1; unfold shOK at this; omega) hi.1 hi.2 hx.1 hx.2
  rw [hs.hd, ex_hd hs, ex_hd hs, ex_hd hs] at p
  unfold entR at q
  dsimp only at q
  have e : pcE Θ N f (J i) (J x) h = bx (P_D_entryRefusal Θ N h b (J i) (J x)) (fun v3 h2 => gO Θ h2 0 f (bx (P_F_refuseFor Θ N h2 f v3) (fun _ h4 => bo (rA Θ h4 0 f 0) (fun v6 => gO Θ h4 1 v6 (bx (P_D_moor Θ N h4 v6 (J i) (J x)) (fun v8 h7 => some (.inl v8, h7)) (fun n9 h9 => xp n9 h9)))) (fun n9 h9 => xp n9 h9))) (fun n9 h9 => xp n9 h9) := by
    unfold pcE P_F_letIn
    rw [hO, r0, bo_some, gO1 hs]
  rw [p] at e
  by_cases c1 : fnd (S 1) i (mny (S 1)) = -1
  · simp only [if_pos c1] at q e
    exact mk_ex w (T := 1) (by omega) (by omega) rfl e q
  · simp only [if_neg c1] at q e
    by_cases c2 : ¬ ((0 ≤ x ∧ x ≤ 59) ∧ x ≤ 60 - fd (S 1) (fnd (S 1) i (mny (S 1))) 1)
    · simp only [if_pos c2] at q e
      exact mk_ex w (T := 2) (by omega) (by omega) rfl e q
    · simp only [if_neg c2] at q e
      by_cases c3 : ¬ (fd (S 1) (fnd (S 1) i (mny (S 1))) 4 = -1 ∧ S 1 2 = 1)
      · simp only [if_pos c3] at q e
        exact mk_ex w (T := 3) (by omega) (by omega) rfl e q
      · simp only [if_neg c3] at q e
        by_cases c4 : S 1 1 < fd (S 1) (fnd (S 1) i (mny (S 1))) 2 + 2
        · simp only [if_pos c4] at q e
          refine mk_rf w (T := 4) (y := 1) (by omega) (by omega) (by omega) (by omega) rfl (e.trans ?_) q
          rw [bx_inl, hO]
          unfold P_F_refuseFor
          rw [if_neg (show ¬ J 1 = (0 : Int32) by decide)]
          cases wF Θ h 0 f 8 (.int (J 1)) <;> rfl
        · simp only [if_neg c4] at q e
          by_cases c5 : ¬ fre (S 1) x (fd (S 1) (fnd (S 1) i (mny (S 1))) 1).toNat = 1
          · simp only [if_pos c5] at q e
            refine mk_rf w (T := 4) (y := 2) (by omega) (by omega) (by omega) (by omega) rfl (e.trans ?_) q
            rw [bx_inl, hO]
            unfold P_F_refuseFor
            rw [if_neg (show ¬ J 2 = (0 : Int32) by decide)]
            cases wF Θ h 0 f 8 (.int (J 2)) <;> rfl
          · simp only [if_neg c5, up2_ur0, up2_ur] at q e
            have fl := fnd_lt I c1
            have sh := I.sh _ fl.1 fl.2
            unfold shOK at sh
            have c2' := Decidable.not_not.mp c2
            have fr := (fre_iff2 I (a := x) (l := fd (S 1) (fnd (S 1) i (mny (S 1))) 1) (by omega)).mp (Decidable.not_not.mp c5)
            have I2 := Inv.plc I fl.1 fl.2 (p := x) (Or.inr ⟨by omega, by omega, fun k k0 k1 kn k4 => by have := fr k k0 k1 k4; omega⟩)
            obtain ⟨D', p1, p2⟩ := c_moor (N := N) hN hs.1 hd I hi.1 hi.2 c1 I2
            rw [hs.hd] at p1
            refine mk_ok hs rng upd (v := dct (plcV (S 1) (fnd (S 1) i (mny (S 1))) x) (mny (S 1))) (e.trans ?_) p2 (I2.mono (by omega) (by omega) (by omega)) q trivial
            rw [bx_inl, hO]
            unfold P_F_refuseFor
            rw [if_pos (show J 0 = (0 : Int32) from rfl), bx_inl, r0, bo_some, gO1 hs, p1, bx_inl]
noncomputable def pcL (Θ : mW) (N f : Nat) (i : Int32) (h : mH) : Option ((Int32 ⊕ Nat) × mH) := gO Θ h 0 f (P_F_letOut Θ N h f i)
theorem in_lea {i : Int} (hi : int' i) (hN : 2000 ≤ N) : INN Θ f m (tbl [10, 12, 13]) (fun _ => True) (pcL Θ N f (J i)) (fun h => P_R_leaves Θ N h m (J i)) := by
  intro c h S bO c0 c1 w
  have I := w.ok.1
  have hO := fun (p : Option ((Int32 ⊕ Nat) × mH)) => w.gO (p := p)
  obtain ⟨b, D, r0, hs, hd, -, rng, upd⟩ := (w.mono (c2 := c + 1) (by omega)).now
  have p := c_leaveR (N := N) hN hs.1 hd I hi.1 hi.2
  have q : ∀ h2, bOK Θ 9 m h2 → P_R_leaves Θ N (HR Θ m S h2) m (J i) = some (J (leaR S i).1, HR Θ m (leaR S i).2 h2) := fun h2 hb => s_leaves hN hb (Inv.ok I) hi.1 hi.2
  rw [hs.hd, ex_hd hs, ex_hd hs] at p
  unfold leaR at q
  dsimp only at q
  have e : pcL Θ N f (J i) h = bx (P_D_leaveRefusal Θ N h b (J i)) (fun v3 h2 => gO Θ h2 0 f (bx (P_F_refuseFor Θ N h2 f v3) (fun _ h4 => bo (rA Θ h4 0 f 0) (fun v6 => gO Θ h4 1 v6 (bx (P_D_castOff Θ N h4 v6 (J i)) (fun v8 h7 => some (.inl v8, h7)) (fun n9 h9 => xp n9 h9)))) (fun n9 h9 => xp n9 h9))) (fun n9 h9 => xp n9 h9) := by
    unfold pcL P_F_letOut
    rw [hO, r0, bo_some, gO1 hs]
  rw [p] at e
  by_cases c1 : fnd (S 1) i (mny (S 1)) = -1
  · simp only [if_pos c1] at q e
    exact mk_ex w (T := 1) (by omega) (by omega) rfl e q
  · simp only [if_neg c1] at q e
    by_cases c2 : ¬ (fd (S 1) (fnd (S 1) i (mny (S 1))) 4 ≠ -1 ∧ S 1 2 = 1)
    · simp only [if_pos c2] at q e
      exact mk_ex w (T := 2) (by omega) (by omega) rfl e q
    · simp only [if_neg c2] at q e
      by_cases c4 : S 1 1 < fd (S 1) (fnd (S 1) i (mny (S 1))) 2
      · simp only [if_pos c4] at q e
        refine mk_rf w (T := 3) (y := 3) (by omega) (by omega) (by omega) (by omega) rfl (e.trans ?_) q
        rw [bx_inl, hO]
        unfold P_F_refuseFor
        rw [if_neg (show ¬ J 3 = (0 : Int32) by decide)]
        cases wF Θ h 0 f 8 (.int (J 3)) <;> rfl
      · simp only [if_neg c4] at q e
        by_cases c5 : fd (S 1) (fnd (S 1) i (mny (S 1))) 8 ≠ 0
        · simp only [if_pos c5] at q e
          refine mk_rf w (T := 3) (y := 4) (by omega) (by omega) (by omega) (by omega) rfl (e.trans ?_) q
          rw [bx_inl, hO]
          unfold P_F_refuseFor
          rw [if_neg (show ¬ J 4 = (0 : Int32) by decide)]
          cases wF Θ h 0 f 8 (.int (J 4)) <;> rfl
        · simp only [if_neg c5, up2_ur0, up2_ur] at q e
          have fl := fnd_lt I c1
          have I2 := Inv.plc I fl.1 fl.2 (p := -1) (Or.inl rfl)
          obtain ⟨D', p1, p2⟩ := c_castOff (N := N) hN hs.1 hd I hi.1 hi.2 c1 I2
          rw [hs.hd] at p1
          refine mk_ok hs rng upd (v := dct (plcV (S 1) (fnd (S 1) i (mny (S 1))) (-1)) (mny (S 1))) (e.trans ?_) p2 (I2.mono (by omega) (by omega) (by omega)) q trivial
          rw [bx_inl, hO]
          unfold P_F_refuseFor
          rw [if_pos (show J 0 = (0 : Int32) from rfl), bx_inl, r0, bo_some, gO1 hs, p1, bx_inl]
end IO
