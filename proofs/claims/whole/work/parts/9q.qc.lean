/-! the questions of the face, on: what fits, shares; undo, save, restore; append, lineAt -/
theorem vn64 {x : UInt64} (hx : FP.Core.dIsNaN x = false) : x &&& 0x7fffffffffffffff ≤ 0x7ff0000000000000 := by
  rw [FP.Core.notNaN_iff, FP.Core.ne_nan] at hx
  rw [UInt64.le_iff_toNat_le, UInt64.toNat_and]
  have e : (0x7fffffffffffffff : UInt64).toNat = 2 ^ 63 - 1 := by decide
  rw [e, Nat.and_two_pow_sub_one_eq_mod]
  exact hx
theorem vn32 {x : UInt32} (hx : FP.Core.fIsNaN x = false) : x &&& 0x7fffffff ≤ 0x7f800000 := by
  rw [FP.Core.notNaN_iff32, FP.Core.ne_nan32] at hx
  rw [UInt32.le_iff_toNat_le, UInt32.toNat_and]
  have e : (0x7fffffff : UInt32).toNat = 2 ^ 31 - 1 := by decide
  rw [e, Nat.and_two_pow_sub_one_eq_mod]
  exact hx
theorem dd_nn {s n : Int} (n0 : 1 ≤ n) (n1 : n ≤ 8) : FP.Core.dIsNaN (FP.ddiv (FP.i2d (J s)) (FP.i2d (J n))) = false := by
  refine FP.Core.ddiv_out ((FP.Core.notNaN_iff _).mpr (FP.Core.i2d_fin _).ne_nan) (FP.Core.i2d_fin _) (fun z => ?_)
  rw [FP.Core.zero_bits2] at z
  exact FP.Core.i2d_ne_zero (v := J n) (by
    intro e
    have e2 : J n = J 0 := e
    rw [J_eq (by omega) (by omega) (by omega) (by omega)] at e2
    omega) z
theorem ff_nn {s : Int32} : FP.Core.fIsNaN (FP.fdiv (FP.i2f s) (1114636288 : UInt32)) = false := by
  refine FP.Core.fdiv_out (FP.Core.FFin.notNaN (FP.Core.i2f_fin _)) ((FP.Core.fin_bits32 _).mpr (by decide)) (fun z => ?_)
  rw [FP.Core.zero_bits232] at z
  exact absurd z (by decide)
theorem f2d_nn {x : UInt32} (hx : FP.Core.fIsNaN x = false) : FP.Core.dIsNaN (FP.f2d x) = false := (FP.f2d_nan x).trans hx
theorem cmp_self {x : UInt64} (hx : FP.Core.dIsNaN x = false) : Op.cmpValue (FP.dcmp x x) .l = 0 := by
  have e : FP.dcmp x x = some .eq := FP.Core.dcmp_self ((FP.Core.notNaN_iff x).mp hx)
  rw [e]
  rfl
def OQd (Θ : mW) (f : Nat) (k : Int) (h : mH) (S : Nat → Int → Int) (pf : Option ((UInt64 ⊕ Nat) × mH)) (pr : mH → Option (UInt64 × mH)) : Prop :=
  ∃ (v v' : UInt64) (T : Int) (h1 : mH) (S' : Nat → Int → Int), (pf = if T = 0 then some (.inl v, h1) else some (.inr 15, h1)) ∧ (T = 0 ∨ T = 1) ∧ (T = 0 → FP.Core.dIsNaN v = false) ∧ (∀ h2, bOK Θ 9 (f + 157) h2 → pr (HR Θ (f + 157) S h2) = some (v', HR Θ (f + 157) S' h2)) ∧ S' 0 13 = T ∧ (T = 0 → v' = v) ∧ ZW Θ f (k + 1) h1 S S'
def OPf (Θ : mW) (f : Nat) (k : Int) (h : mH) (S : Nat → Int → Int) (pf : Option (UInt32 × mH)) (pr : mH → Option (UInt32 × mH)) : Prop :=
  ∃ (v : UInt32) (S' : Nat → Int → Int) (h1 : mH), pf = some (v, h1) ∧ pr (HR Θ (f + 157) S h1) = some (v, HR Θ (f + 157) S' h1) ∧ FP.Core.fIsNaN v = false ∧ ZW Θ f (k + 1) h1 S S'
section QC
variable {Θ : mW} {N f b : Nat} {c k : Int} {S S' S2 : Nat → Int → Int} {h h2 : mH} {tb : Int → Nat} {vp : Int → Prop} {bO : (Int → Int) → Prop} {D G : Nat → Int → Int} {V : Int → Int} {P : Nat → Prop} {y z : Nat}
theorem zw_g (ww : ZW Θ f k h S S) (x : Nx Θ h h2 P y z) (hy : y ≤ 100) (hz : z ≤ 10000) (hP : ∀ x, P x → ¬ (f + 157 ≤ x ∧ x < f + 168)) (kx : KX Θ f (k + 1 - S2 0 10) h2 S2 (fun _ => False)) (wt : ∃ v1 v2 T U, CT Θ (f + 151) (f + 154) (f + 152) v1 (S2 0 10) (S2 5) T U h2 ∧ SBs Θ (f + 155) v2 (S2 0 12) (S2 6) h2 ∧ ((v1 = f + 153 ∨ f + 168 ≤ v1) ∧ (v2 = f + 156 ∨ f + 168 ≤ v2) ∧ v1 ≠ v2)) (wf : ∃ G, HB Θ shG (f + 146) G h2) (wn : WN (k + 1) S2) : ZW Θ f (k + 1) h2 S S2 := by
  obtain ⟨w1, ⟨-, -, ⟨g, a5⟩, ⟨g2, a6⟩⟩, w3, w4, w5⟩ := ww
  have gx : ∀ (u : Nat) (e : mE), f + 166 ≤ u → u < f + 168 → gt Θ h u = some e → gt Θ h2 u = some e := fun u e hu hu2 ge => by
    have g1 := (gt_some ge).1
    have g2 := gt_lt ge
    rw [x.2.2 u (by omega) (fun q => hP u q (by omega))]
    exact ge
  exact ⟨kx, ⟨wt, wf, ⟨g, gx _ _ (by omega) (by omega) a5⟩, ⟨g2, gx _ _ (by omega) (by omega) a6⟩⟩, w3.nx x (fun u u1 u2 q => hP u q (by have := shR_l; omega)), wn, w5.nx x hy hz⟩
theorem zw_fit (ww : ZW Θ f k h S S) (x : Nx Θ h h2 (fun x => f + 146 ≤ x ∧ x < f + 151) 0 0) (hg : HB Θ shG (f + 146) G h2) (hs : ∀ a : Nat, a ≠ 7 → S2 a = T13 S 0 a) : ZW Θ f (k + 1) h2 S S2 := by
  have e0 := hs 0 (by decide)
  have ea : ∀ a : Nat, a ≠ 0 → a ≠ 7 → S2 a = S a := fun a a0 a7 => (hs a a7).trans (T13_o a0)
  have ej : ∀ j : Int, j ≠ 13 → S2 0 j = S 0 j := fun j hj => by rw [e0]; exact T13_j hj
  obtain ⟨w1, ⟨⟨v1, v2, T, U, a1, a2, a3⟩, a4⟩, w3, w4, w5⟩ := id ww
  have sm : Sm S S2 := ⟨ej 4 (by decide), ej 5 (by decide), ej 6 (by decide), ej 7 (by decide), ej 8 (by decide), ea 1 (by decide) (by decide), ea 3 (by decide) (by decide), ea 4 (by decide) (by decide)⟩
  refine zw_g ww x (by omega) (by omega) (fun u q => by omega) ?_ ⟨v1, v2, T, U, ?_, ?_, a3⟩ ⟨G, hg⟩ (w4.sm (ej 10 (by decide)) (ej 12 (by decide)) (by rw [ej 8 (by decide)]; exact w4.2.2.1) (ej 6 (by decide)) (ej 7 (by decide)))
  · rw [ej 10 (by decide)]
    exact (((w1.mono (by omega)).nx x (fun u hu q => by unfold KR at hu; omega)).sm sm)
  · rw [ej 10 (by decide), ea 5 (by decide) (by decide)]
    exact a1.nx x (fun u hu q => by omega)
  · rw [ej 12 (by decide), ea 6 (by decide) (by decide)]
    exact sb_nx a2 x (by omega) (by omega)
theorem k_most (kx : KX Θ f c h S bO) (hg : HB Θ shG (f + 146) G h) {op : mH → Nat → Nat → Option (Int32 × mH)} {pv : Int → Prop} (ho : ∀ (b : Nat) (D : Nat → Int → Int), bOK Θ 5 (f + 146) h → HB Θ shD b D h → (f + 146 + 5 ≤ b ∨ b + 13 ≤ f + 146) → DV D (S 1) → In c (S 1) → ∃ E' v, op (HG Θ (f + 146) G h) (f + 146) b = some (J v, HG Θ (f + 146) E' h) ∧ pv v) : ∃ (b : Nat) (v : Int) (G' : Nat → Int → Int) (h2 : mH), rA Θ h 0 f 0 = some b ∧ (∀ {ρ : Type} {p : Option ρ}, gO Θ h 6 (f + 146) p = p) ∧ op h (f + 146) b = some (J v, h2) ∧ pv v ∧ KX Θ f c h2 S bO ∧ HB Θ shG (f + 146) G' h2 ∧ Nx Θ h h2 (fun x => f + 146 ≤ x ∧ x < f + 151) 0 0 := by
  obtain ⟨b, D, r0, hs, hd, I, rng, -⟩ := kx.now
  obtain ⟨E', v, q1, q2⟩ := ho b D hg.1 hs (by omega) hd I
  rw [show HG Θ (f + 146) G h = h from hg.2] at q1
  have x : Nx Θ h (HG Θ (f + 146) E' h) (fun x => f + 146 ≤ x ∧ x < f + 151) 0 0 := (Nx.bk hg).wid (fun u _ q => ⟨by omega, by have : shG.length = 5 := rfl; omega⟩) (by omega) (by omega)
  exact ⟨b, v, E', _, r0, fun {ρ p} => HB.xO hg (i := 0) rfl, q1, q2, kx.nx x (fun u hu q => by unfold KR at hu; omega), HB.self hg.1, x⟩
theorem o_fit1 (hN : 2000 ≤ N) (ww : ZW Θ f k h S S) : OPn Θ f k h S (P_F_mostFitting Θ N h f) (fun hh => P_R_mostFitting Θ N hh (f + 157)) := by
  obtain ⟨G, hg⟩ := ww.2.1.2.1
  obtain ⟨b, v, G', h2, a1, a2, a3, a4, a5, a6, a7⟩ := k_most (op := fun h => P_G_mostByTrying Θ N h) ww.1 hg (fun b D hb hs hx hd I => c_mostTry (N := N) hN hb hs hx hd I)
  obtain ⟨S', v2, q1, q2, q3⟩ := s_mostOf (N := N) (S := S) (h := h2) hN (ww.2.2.1.1.nx a7) ww.1.ok.1 (f := 0) (Or.inl rfl)
  rw [if_pos rfl] at q3
  have ev := isC_eq a4 q3
  subst ev
  refine ⟨v, S', h2, ?_, ?_, zw_fit ww a7 a6 q2⟩
  · unfold P_F_mostFitting
    rw [ww.1.r5, bo_some, a1, bo_some, a2, a3, bc_some]
  · unfold P_R_mostFitting
    dsimp only
    rw [r_O (ww.2.2.1.1.nx a7), q1, bc_some]
theorem o_fit2 (hN : 2000 ≤ N) (ww : ZW Θ f k h S S) : OPn Θ f k h S (P_F_mostFittingByTable Θ N h f) (fun hh => P_R_mostFittingByTable Θ N hh (f + 157)) := by
  obtain ⟨G, hg⟩ := ww.2.1.2.1
  obtain ⟨b, v, G', h2, a1, a2, a3, a4, a5, a6, a7⟩ := k_most (op := fun h => P_G_mostByTable Θ N h) ww.1 hg (fun b D hb hs hx hd I => c_mostTable (N := N) hN hb hs hx hd I)
  obtain ⟨S', v2, q1, q2, q3⟩ := s_mostOf (N := N) (S := S) (h := h2) hN (ww.2.2.1.1.nx a7) ww.1.ok.1 (f := 0) (Or.inl rfl)
  rw [if_pos rfl] at q3
  have ev := isC_eq a4 q3
  subst ev
  refine ⟨v, S', h2, ?_, ?_, zw_fit ww a7 a6 q2⟩
  · unfold P_F_mostFittingByTable
    rw [ww.1.r5, bo_some, a1, bo_some, a2, a3, bc_some]
  · unfold P_R_mostFittingByTable
    dsimp only
    rw [r_O (ww.2.2.1.1.nx a7), q1, bc_some]
theorem o_fit3 (hN : 2000 ≤ N) (ww : ZW Θ f k h S S) : OPn Θ f k h S (P_F_mostFittingMetres Θ N h f) (fun hh => P_R_mostFittingMetres Θ N hh (f + 157)) := by
  obtain ⟨G, hg⟩ := ww.2.1.2.1
  obtain ⟨b, v, G', h2, a1, a2, a3, a4, a5, a6, a7⟩ := k_most (op := fun h => P_G_mostMetres Θ N h) ww.1 hg (fun b D hb hs hx hd I => c_mostMetres (N := N) hN hb hs hx hd I)
  obtain ⟨S', v2, q1, q2, q3⟩ := s_mostOf (N := N) (S := S) (h := h2) hN (ww.2.2.1.1.nx a7) ww.1.ok.1 (f := 1) (Or.inr rfl)
  rw [if_neg (by decide)] at q3
  have ev := isM_eq a4 q3
  subst ev
  refine ⟨v, S', h2, ?_, ?_, zw_fit ww a7 a6 q2⟩
  · unfold P_F_mostFittingMetres
    rw [ww.1.r5, bo_some, a1, bo_some, a2, a3, bc_some]
  · unfold P_R_mostFittingMetres
    dsimp only
    rw [r_O (ww.2.2.1.1.nx a7), q1, bc_some]
theorem o_cons (hN2 : 100000 ≤ N) (hk : k ≤ 1000) (ww : ZW Θ f k h S S) : OPn Θ f k h S (P_F_isConsistent Θ N h f) (fun hh => P_R_isConsistent Θ N hh (f + 157)) := by
  have hN : 2000 ≤ N := by omega
  obtain ⟨G, hg⟩ := ww.2.1.2.1
  obtain ⟨b, D, r0, hs, hd, I, -, -⟩ := ww.1.now
  have n := ww.2.2.2.1.1
  have i0 := I.h0
  have w1 := c_waysAgree (N := N) hN hs.1 hd I
  have w2 := c_gapsAgree (N := N) hN hs.1 hd I
  rw [hs.hd] at w1 w2
  obtain ⟨b1, v1, G1, h1, a1, a2, a3, a4, a5, a6, a7⟩ := k_most (op := fun h => P_G_mostByTrying Θ N h) ww.1 hg (fun b D hb hs hx hd I => c_mostTry (N := N) hN hb hs hx hd I)
  obtain ⟨b2, v2, G2, h2, e1, e2, e3, e4, e5, e6, e7⟩ := k_most (op := fun h => P_G_mostByTable Θ N h) a5 a6 (fun b D hb hs hx hd I => c_mostTable (N := N) hN hb hs hx hd I)
  have ev := isC_eq a4 e4
  obtain ⟨b3, D3, t0, ts, td, I3, -, -⟩ := e5.now
  have bs := h_billSum (N := N) hN ts td I3
  have ba := h_accounts (N := N) ts td
  have bo := c_hasOverlap (N := N) hN ts.1 td I3
  rw [ts.hd] at bo
  have h7 := I3.h7
  refine ⟨1, T13 S 0, h2, ?_, q_isConsistent (ww.2.2.1.1.nx (a7.trans e7)), zw_fit ww (a7.trans e7) e6 (fun _ _ => rfl)⟩
  unfold P_F_isConsistent
  rw [r0, bo_some, n_hou hs hd, bo_some, c_agrees i0.1 (by omega) (by omega) hN, bc_some, if_neg (show ¬ J 1 = (0 : Int32) by decide), r0, bo_some, rA11 hs, bo_some, bo_some, rA10 hs, bo_some, gO4 hs, w1, bc_some, if_neg (show ¬ J 1 = (0 : Int32) by decide), r0, bo_some, rA10 hs, bo_some, gO2 hs, w2, bc_some, if_neg (show ¬ J 1 = (0 : Int32) by decide), ww.1.r5, bo_some, a1, bo_some, a2]
  refine (congrArg (fun q => bc q _) a3).trans ?_
  rw [bc_some, a5.r5, bo_some, e1, bo_some, e2]
  refine (congrArg (fun q => bc q _) e3).trans ?_
  rw [bc_some, if_pos (by rw [ev]), t0, bo_some, rA10 ts, bo_some, gO2 ts, bs, bc_some, t0, bo_some, gO1 ts, ba, bc_some, if_pos (by rw [← h7.2.2]), t0, bo_some, rA10 ts, bo_some, gO2 ts, bo, bc_some]
  rfl
theorem o_share (hN : 2000 ≤ N) (ww : ZW Θ f k h S S) : OPf Θ f k h S (P_F_takenShare Θ N h f) (fun hh => P_R_takenShare Θ N hh (f + 157)) := by
  obtain ⟨b, D, r0, hs, hd, I, -, -⟩ := ww.1.now
  have t := tkn_frm I
  have nn := ff_nn (s := J (60 - frm (S 1) 60))
  refine ⟨_, T13 S 0, h, ?_, q_takenShare hN ww.2.2.1.1 (Inv.ok I) (vn32 nn), nn, zw_t ww⟩
  unfold P_F_takenShare
  rw [r0, bo_some, rA10 hs, bo_some, gO2 hs, h_taken hN hs hd I, bc_some, ← t]
  exact if_pos (vn32 nn)
theorem o_mean (hN : 2000 ≤ N) (ww : ZW Θ f k h S S) : OQd Θ f k h S (P_F_meanDirt Θ N h f) (fun hh => P_R_meanDirt Θ N hh (f + 157)) := by
  obtain ⟨b, D, r0, hs, hd, I, -, -⟩ := ww.1.now
  have h4 := I.h4
  have d := c_dirtSum (N := N) hN hs.1 hd I
  rw [hs.hd] at d
  by_cases cc : S 1 4 = 0
  · refine ⟨0, 0, 1, h ++ [oB 15 []], T13 S 1, ?_, Or.inr rfl, fun z => by omega, fun h2 hb => ?_, T13_t, fun z => by omega, zw_e ww⟩
    · unfold P_F_meanDirt
      rw [r0, bo_some, rA10 hs, bo_some, n_cnt hs hd, bo_some, cc]
      rfl
    · have hv : vf_n64 (FP.ddiv (FP.i2d (J (smm (S 1) 3 (mny (S 1))))) (FP.i2d (J (S 1 4)))) ∨ True := Or.inr trivial
      unfold P_R_meanDirt
      dsimp only
      rw [r_A0 hb, bo_some, r_a1 hb (by omega) (by omega), bo_some, jn_eq, if_pos (by rw [cc]; decide)]
      dsimp only
      rw [r_O hb, s_goesT hb (Or.inl rfl), bc_some, if_pos (show J 0 = (0 : Int32) from rfl)]
      rfl
  · have nn := dd_nn (s := smm (S 1) 3 (mny (S 1))) (n := S 1 4) (by omega) (by omega)
    refine ⟨_, _, 0, h, T13 S 0, ?_, Or.inl rfl, fun _ => nn, fun h2 hb => (q_meanDirt hN hb (Inv.ok I) (vn64 nn)).trans (if_neg (by omega)), T13_t, fun _ => rfl, zw_t ww⟩
    unfold P_F_meanDirt
    rw [r0, bo_some, rA10 hs, bo_some, n_cnt hs hd, bo_some, if_neg (by rw [J_eq0] <;> omega), bo_some, rA10 hs, bo_some, gO2 hs, d, bc_some, r0, bo_some, rA10 hs, bo_some, n_cnt hs hd, bo_some, if_pos rfl]
    exact if_pos (vn64 nn)
end QC
