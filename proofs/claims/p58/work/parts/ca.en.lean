/-! a text is made; lines are compared -/
section EN
variable {Θ : mW} {o : Option (Int → Int)} {N f q v v0 a b : Nat} {c c2 : Int} {l l2 : List Int} {h h0 h1 h2 : mH} {P : Nat → Prop} {y z y2 z2 : Nat} {S S2 : Nat → Int → Int} {V : Int → Int}
theorem cor_go (s : BL Θ h0 q v l y z h) {g : mH} (hg : g = h ∨ ∃ e, g = h ++ [e]) : ∃ (F : Nat → Int32) (B : Int → Int), P_AR_copyOfRange Θ N g v (J 0) (J l.length) = some (mwB Θ + g.length, g ++ [aI 4 l.length F]) ∧ F = (fun k : Nat => J (B k)) ∧ ∀ j : Nat, j < l.length → B j = l.getD j 0 ∧ 0 ≤ l.getD j 0 ∧ l.getD j 0 < 128 := by
  obtain ⟨⟨β, ⟨B, A, cap, b1, b2, b3, b4, b5, b6, b7⟩, s2⟩, s3, s4⟩ := s
  have g0 := HB.at2 b2 (i := 0) rfl
  rw [Nat.add_zero] at g0
  have gv : gt Θ g v = some (aI 4 cap (fun k => J (A 0 k))) := by
    rcases hg with rfl | ⟨e, rfl⟩
    · exact g0
    · exact gt_app g0
  have hN : aN Θ g v = some (J cap) := by
    unfold aN
    rw [gv]
    show (if (4 : Nat) < 7 then some (Int32.ofNat cap) else none) = some (J cap)
    rw [if_pos (by decide), J_ofNat]
  have rg : ∀ j : Nat, j < l.length → A 0 j = l.getD j 0 ∧ 0 ≤ l.getD j 0 ∧ l.getD j 0 < 128 := fun j hj => by
    have e := b7 j (by omega) (by omega)
    have e2 := s2 j hj
    have r := b6 j (by omega) (by omega)
    rw [← e2, ← e]
    exact ⟨rfl, r⟩
  unfold P_AR_copyOfRange
  rw [jn_eq, if_pos (show J 0 = (0 : Int32) from rfl), hN, bo_some]
  by_cases ce : l.length = cap
  · refine ⟨fun k => J (A 0 k), A 0, ?_, rfl, rg⟩
    rw [if_pos (by rw [ce])]
    unfold aCl al
    rw [gv]
    show (if (4 : Nat) = 4 ∧ (List.range cap).all (fun i => fits .byte (.int (J (A 0 ((i : Nat) : Int))))) = true then _ else none) = _
    rw [if_pos ⟨rfl, by
      rw [List.all_eq_true]
      intro i hi
      rw [List.mem_range] at hi
      have := b6 (i : Int) (by omega) (by omega)
      exact fits_by this.1 this.2⟩, ce]
  · refine ⟨fun k => J (if 0 ≤ (k : Int) ∧ (k : Int) < l.length then A 0 k else 0), fun k => if 0 ≤ k ∧ k < l.length then A 0 k else 0, ?_, rfl, fun j hj => ?_⟩
    · rw [if_neg (by rw [J_eq] <;> omega)]
      unfold P_AR_copyOfRangeByte P_AR_checkLength
      dsimp only
      have hk : (J (l.length : Int)).toNatClampNeg = l.length := by rw [J_nat (by omega) (by omega)]; omega
      rw [if_pos (by rw [J_le] <;> omega), bc_some, J_sub, show (l.length : Int) - 0 = l.length by omega]
      unfold ala al
      rw [if_pos ⟨by rw [J_lt0] <;> omega, by rw [hk]; omega⟩, hk]
      have g2 : gt Θ (g ++ [aI 4 l.length (fun _ => 0)]) v = some (aI 4 cap (fun k => J (A 0 k))) := gt_app gv
      have g3 : gt Θ (g ++ [aI 4 l.length (fun _ => 0)]) (mwB Θ + g.length) = some (aI 4 l.length (fun _ => 0)) := gt_new
      have hN2 : aN Θ (g ++ [aI 4 l.length (fun _ => 0)]) v = some (J cap) := by
        unfold aN
        rw [g2]
        show (if (4 : Nat) < 7 then some (Int32.ofNat cap) else none) = some (J cap)
        rw [if_pos (by decide), J_ofNat]
      refine (show _ = _ from congrArg (fun z => bc z _) (congrArg (fun z => bo z _) hN2)).trans ?_
      have n0 : (J 0).toNatClampNeg = 0 := J_nat (a := 0) (by omega) (by omega)
      have ec : cpB Θ (g ++ [aI 4 l.length (fun _ => 0)]) v (J 0) (mwB Θ + g.length) (J 0) (J (l.length : Int)) = some (pt Θ (g ++ [aI 4 l.length (fun _ => 0)]) (mwB Θ + g.length) (aI 4 l.length (va_cpy (fun k => J (A 0 k)) (fun _ => 0) 0 0 l.length))) := by
        unfold cpB
        rw [g2]
        show (if (List.range (J (l.length : Int)).toNatClampNeg).all (fun i => fits .byte (.int (J (A 0 (((J 0).toNatClampNeg + i : Nat) : Int))))) = true then cpI Θ (g ++ [aI 4 l.length (fun _ => 0)]) 4 v (J 0) (mwB Θ + g.length) (J 0) (J (l.length : Int)) else none) = _
        rw [if_pos (by
          rw [List.all_eq_true]
          intro i hi
          rw [hk, List.mem_range] at hi
          rw [n0]
          have := b6 ((0 + i : Nat) : Int) (by omega) (by omega)
          exact fits_by this.1 this.2)]
        unfold cpI
        rw [g2, g3]
        show (if ((4 : Nat) = 4 ∧ (4 : Nat) = 4) ∧ (¬ J 0 < 0 ∧ ¬ J 0 < 0 ∧ ¬ J (l.length : Int) < 0) ∧ (J 0).toNatClampNeg + (J (l.length : Int)).toNatClampNeg ≤ cap ∧ (J 0).toNatClampNeg + (J (l.length : Int)).toNatClampNeg ≤ l.length then some (pt Θ (g ++ [aI 4 l.length (fun _ => 0)]) (mwB Θ + g.length) (aI 4 l.length (va_cpy (fun k => J (A 0 k)) (fun _ => 0) (J 0).toNatClampNeg (J 0).toNatClampNeg (J (l.length : Int)).toNatClampNeg))) else none) = _
        rw [if_pos ⟨⟨rfl, rfl⟩, ⟨by decide, by decide, by rw [J_lt0] <;> omega⟩, by rw [n0, hk]; omega, by rw [n0, hk]; omega⟩, n0, hk]
      rw [bo_some, J_sub, J_mn (by omega) (by omega) (by omega) (by omega), show min ((cap : Int) - 0) (l.length : Int) = l.length by omega, ec, bo_some, bc_some]
      have lp := l_pt (Θ := Θ) (g := g) (l := [aI 4 l.length (fun _ => 0)]) (k := 0) (e := aI 4 l.length (va_cpy (fun k => J (A 0 k)) (fun _ => 0) 0 0 l.length))
      rw [Nat.add_zero] at lp
      rw [lp]
      have ek : va_cpy (fun k : Nat => J (A 0 k)) (fun _ => 0) 0 0 l.length = fun k : Nat => J (if 0 ≤ (k : Int) ∧ (k : Int) < l.length then A 0 k else 0) := by
        funext k
        unfold va_cpy
        by_cases c : k < l.length
        · rw [if_pos (by omega), if_pos (by omega), show 0 + (k - 0) = k by omega]
        · rw [if_neg (by omega), if_neg (by omega)]
          rfl
      rw [ek]
      rfl
    · dsimp only
      rw [if_pos (by omega)]
      exact rg j hj
theorem bl_end (s : BL Θ h0 q v l y z h) (hl : l.length ≤ 62) : ∃ h2, P_SB_toString Θ N h q = some (mwB Θ + h.length, h2) ∧ TX Θ (mwB Θ + h.length) (mwB Θ + h.length + 1) l h2 ∧ Nx Θ h0 h2 (fun _ => False) (y + 2) (z + 66) := by
  have s0 := s
  obtain ⟨⟨β, ⟨B, A, cap, b1, b2, b3, b4, b5, b6, b7⟩, s2⟩, s3, s4⟩ := s
  have b1' : HB Θ shB q B (h ++ [oB 9 [.null, .int 0, .int 0, .int 0]]) := b1.app
  have w1 := l_wF0 (Θ := Θ) (g := h) (l := [oB 9 [.null, .int 0, .int 0, .int 0]]) (ci := 9) (fs := [.null, .int 0, .int 0, .int 0]) (j := 1) (v := .int (J 0)) rfl (by decide)
  obtain ⟨F, C, e1, e2, e3⟩ := cor_go (N := N) s0 (g := h ++ [oB 9 [.null, .int (J 0), .int 0, .int 0]]) (Or.inr ⟨_, rfl⟩)
  have lg : (h ++ [oB 9 [.null, .int (J 0), .int 0, .int 0]]).length = h.length + 1 := by simp
  rw [lg] at e1
  have w2 := l_wF0 (Θ := Θ) (g := h) (l := [oB 9 [.null, .int (J 0), .int 0, .int 0], aI 4 l.length F]) (ci := 9) (fs := [.null, .int (J 0), .int 0, .int 0]) (j := 0) (v := .ref (mwB Θ + h.length + 1)) rfl (by decide)
  have hh : h ++ [oB 9 [.null, .int (J 0), .int 0, .int 0]] ++ [aI 4 l.length F] = h ++ [oB 9 [.null, .int (J 0), .int 0, .int 0], aI 4 l.length F] := by simp
  have gv : P_AB_getValue Θ N (h ++ [oB 9 [.null, .int 0, .int 0, .int 0]]) q = some (v, h ++ [oB 9 [.null, .int 0, .int 0, .int 0]]) := by
    unfold P_AB_getValue
    rw [b_value b1' b4.1, bo_some]
  have gl : P_AB_length Θ N (h ++ [oB 9 [.null, .int 0, .int 0, .int 0]]) q = some (J l.length, h ++ [oB 9 [.null, .int 0, .int 0, .int 0]]) := by
    unfold P_AB_length
    rw [b_count b1' b4.2.2, bo_some]
  have gL : P_SB_length Θ N (h ++ [oB 9 [.null, .int 0, .int 0, .int 0]]) q = some (J l.length, h ++ [oB 9 [.null, .int 0, .int 0, .int 0]]) := by
    unfold P_SB_length
    rw [b_O8 b1', gl, bc_some]
  have gi : P_AB_isLatin1 Θ N (h ++ [oB 9 [.null, .int 0, .int 0, .int 0]]) q = some (J 1, h ++ [oB 9 [.null, .int 0, .int 0, .int 0]]) := by
    unfold P_AB_isLatin1
    rw [if_neg (by decide), b_coder b1' b4.2.1, bo_some, if_pos (show J 0 = (0 : Int32) from rfl)]
  have lF := l_gt (Θ := Θ) (g := h) (l := [oB 9 [.ref (mwB Θ + h.length + 1), .int (J 0), .int 0, .int 0], aI 4 l.length F]) (k := 0)
  have lB := l_gt (Θ := Θ) (g := h) (l := [oB 9 [.ref (mwB Θ + h.length + 1), .int (J 0), .int 0, .int 0], aI 4 l.length F]) (k := 1)
  rw [Nat.add_zero] at lF
  refine ⟨h ++ [oB 9 [.ref (mwB Θ + h.length + 1), .int (J 0), .int 0, .int 0], aI 4 l.length F], ?_, Or.inr ⟨fun _ j => if j = 0 then ((mwB Θ + h.length + 1 : Nat) : Int) else 0, fun _ k => C k, by omega, ?_, ?_, rfl, rfl, e3, by omega⟩, ?_⟩
  · unfold P_SB_toString al P_ST_init_o P_ST_init_oo
    dsimp only
    rw [b_O8 b1', gv, bc_some, b_O8 b1', gL, bc_some, b_O8 b1', gi, bc_some, if_neg (show ¬ J 1 = (0 : Int32) by decide), if_pos (by decide)]
    refine (show _ = _ from congrArg (fun z => bc (bc z _) _) (congrArg (fun z => bo z _) w1)).trans ?_
    rw [bo_some]
    refine (show _ = _ from congrArg (fun z => bc (bc z _) _) (congrArg (fun z => bc z _) e1)).trans ?_
    rw [bc_some, hh, show mwB Θ + (h.length + 1) = mwB Θ + h.length + 1 by omega]
    refine (show _ = _ from congrArg (fun z => bc (bc z _) _) (congrArg (fun z => bo z _) w2)).trans ?_
    rfl
  · refine HB.of ⟨by omega, by simp; omega⟩ (fun i s hi => ?_)
    obtain rfl : i = 0 := by
      have := (List.getElem?_eq_some_iff.mp hi).1
      simp at this
      exact this
    cases hi
    rw [Nat.add_zero, lF]
    rfl
  · refine HB.of ⟨by omega, by simp; omega⟩ (fun i s hi => ?_)
    obtain rfl : i = 0 := by
      have := (List.getElem?_eq_some_iff.mp hi).1
      simp at this
      exact this
    cases hi
    rw [Nat.add_zero, lB, e2]
    rfl
  · have x1 : Nx Θ h (h ++ [oB 9 [.ref (mwB Θ + h.length + 1), .int (J 0), .int 0, .int 0]]) (fun _ => False) 1 4 := Nx.app
    have x2 : Nx Θ (h ++ [oB 9 [.ref (mwB Θ + h.length + 1), .int (J 0), .int 0, .int 0]]) (h ++ [oB 9 [.ref (mwB Θ + h.length + 1), .int (J 0), .int 0, .int 0]] ++ [aI 4 l.length F]) (fun _ => False) 1 l.length := Nx.app
    rw [show h ++ [oB 9 [.ref (mwB Θ + h.length + 1), .int (J 0), .int 0, .int 0]] ++ [aI 4 l.length F] = h ++ [oB 9 [.ref (mwB Θ + h.length + 1), .int (J 0), .int 0, .int 0], aI 4 l.length F] by simp] at x2
    exact ((s4.trans x1).trans x2).up (by omega) (by omega)
/-! the class's lines -/
def LN (Θ : mW) (f v : Nat) (l : List Int) (h : mH) : Prop := ∃ β, SBs Θ (f + 155) v l.length β h ∧ ∀ j : Nat, j < l.length → β j = l.getD j 0
theorem x_lineAt {bO : (Int → Int) → Prop} (k : KX Θ f c h S bO) (w : LN Θ f v l h) {j : Nat} (hj : j < l.length) (hl : l.length ≤ 140) : P_F_lineAt Θ N h f (J j) = some (.inl (J (l.getD j 0)), h) := by
  obtain ⟨β, w2, e⟩ := w
  have r := sb_rng w2 (j := j) (by omega) (by omega)
  have ej := e j hj
  unfold P_F_lineAt
  rw [if_neg (by rw [J_lt0] <;> omega), k.r7, bo_some, sb_O w2, sb_length w2, bc_some, if_pos (by rw [J_lt] <;> omega), k.r7, bo_some, sb_O w2, sb_charAt w2 (by omega) (by omega), bc_some, if_pos (chr_rng r.1 (by omega)), ej]
theorem isLine_L (mi : mI9 Θ) {bO : (Int → Int) → Prop} (k : KX Θ f c h S bO) (w : LN Θ f v l h) (t : TX Θ a b l h) (hl : l.length ≤ 140) {K : mH → Int32 → Option ((Int32 ⊕ Nat) × mH)} : ∀ (r j w : Nat), j + r = l.length → r < w → P_W_isLine_17 Θ N K f a w h (J 1) (J j) = K h (J 1) := by
  obtain ⟨-, -, -, gs, -⟩ := t.get mi
  intro r
  induction r with
  | zero =>
    intro j w hj hw
    obtain ⟨w, rfl⟩ : ∃ n', w = n' + 1 := ⟨w - 1, by omega⟩
    rw [E_W_isLine_17, B_W_isLine_17, gs, st_len mi t, bc_some, if_pos (by rw [J_le] <;> omega)]
  | succ r ih =>
    intro j w' hj hw
    obtain ⟨w', rfl⟩ : ∃ n', w' = n' + 1 := ⟨w' - 1, by omega⟩
    rw [E_W_isLine_17, B_W_isLine_17, gs, st_len mi t, bc_some, if_neg (by rw [J_le] <;> omega), if_neg (show ¬ J 1 = (0 : Int32) by decide), k.gO, x_lineAt k w (by omega) hl, bx_inl, gs, st_at mi t (by omega), bc_some, jn_eq, if_pos rfl]
    dsimp only
    rw [J_add]
    exact ih (j + 1) w' (by omega) (by omega)
theorem w_isLine (hN : 2000 ≤ N) (mi : mI9 Θ) {bO : (Int → Int) → Prop} (k : KX Θ f c h S bO) (w : LN Θ f v l h) (t : TX Θ a b l h) (hl : l.length ≤ 140) : P_W_isLine Θ N h f (J l.length) a = some (.inl (J 1), h) := by
  obtain ⟨-, -, -, gs, -⟩ := t.get mi
  unfold P_W_isLine
  rw [gs, st_len mi t, bc_some, jn_eq, if_pos rfl]
  dsimp only
  rw [show J 0 = J ((0 : Nat) : Int) from rfl, isLine_L mi k w t hl l.length 0 N (by omega) (by omega), if_pos (Or.inr rfl)]
/-- the dock's line -/
def dockL (V : Int → Int) : List Int := (List.range 60).map (fun (p : Nat) => sgn V p)
theorem dockL_len : (dockL V).length = 60 := by unfold dockL; simp
theorem dockL_at {j : Nat} (hj : j < 60) : (dockL V).getD j 0 = sgn V j := by
  unfold dockL
  simp [List.getD_eq_getElem?_getD, hj]
theorem x_dock (hN : 2000 ≤ N) (c0 : 0 ≤ c) (c1 : c ≤ 2000) (w : WV Θ f o c v h V) : ∃ v2 h2, P_F_describeDock Θ N h f = some (J 60, h2) ∧ WV Θ f o c v2 h2 V ∧ LN Θ f v2 (dockL V) h2 ∧ FR Θ f v v2 h h2 60 8400 := by
  obtain ⟨S, rfl, so, wk, wg, ⟨n, β, w2⟩, w4⟩ := w
  have I := wk.ok.1
  obtain ⟨h1, p1, p2⟩ := ls_0 (N := N) w2
  obtain ⟨v3, β3, h3, q1, q2, q3⟩ := l_dock_L (N := N) hN (by omega) wk w4 (K := fun h10 => (bo (rA Θ h10 0 f 7) (fun v11 => (gO Θ h10 8 v11 (bc (P_SB_length Θ N h10 v11) (fun v13 h12 => (some (v13, h12)))))))) 60 0 N v β h1 0 p2 (by omega) (by omega) (by omega) (fun i i0 i1 => by omega)
  have kx3 := ls_kx q2 w4 wk
  have x3 : Nx Θ h h3 (fun x => x = f + 155 ∨ x = v) 60 8400 := ⟨q2.2.2.1, q2.2.2.2.1, fun x hx hp => q2.2.2.2.2 x hx (fun q => by rcases q with q | q | q <;> first | exact hp (Or.inl q) | exact hp (Or.inr q) | omega)⟩
  have fr : FR Θ f v v3 h h3 60 8400 := ⟨x3.wid (fun x _ q => by rcases q with q | q <;> first | exact Or.inl (by omega) | exact Or.inr q) (by omega) (by omega), q2.2.1⟩
  obtain ⟨G, hg⟩ := wg
  have hL : shG.length = 5 := rfl
  refine ⟨v3, h3, ?_, ⟨S, rfl, so, kx3, ⟨G, hg.nx x3 (fun u u1 u2 q => by omega)⟩, ⟨_, _, q2.1⟩, ?_⟩, ⟨β3, ?_, fun j hj => ?_⟩, fr⟩
  · unfold P_F_describeDock
    rw [wk.r7, bo_some, sb_O w2, p1, bc_some, q1, kx3.r7, bo_some, sb_O q2.1, sb_length q2.1, bc_some]
  · rcases q2.2.1 with e | e
    · omega
    · have hf : HB Θ shG (f + 146) G h := hg
      have := hf.1.2
      have := zw_sb w2
      obtain ⟨a, b, r, x, F, E, Q, k1, -⟩ := wk
      have k2 := k1.2.1 10 (by omega)
      have := k2.1.2
      obtain ⟨B, A, cap, b1, -⟩ := w2
      have l1 := b1.1.2
      simp [shB] at l1
      omega
  · rw [dockL_len]
    exact q2.1
  · rw [dockL_len] at hj
    rw [dockL_at hj]
    exact q3 j (by omega) (by omega)
end EN
