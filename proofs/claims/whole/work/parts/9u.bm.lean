/-! the class's line of a bill -/
section BM
variable {Θ : mW} {N f b m q v0 v y : Nat} {c k n t : Int} {S S' S2 : Nat → Int → Int} {h h0 h2 : mH} {bO : (Int → Int) → Prop} {D G : Nat → Int → Int} {V β g : Int → Int}
/-- what stays while the line grows -/
def LB (Θ : mW) (f : Nat) (c : Int) (S : Nat → Int → Int) (b : Nat) (D : Nat → Int → Int) (v0 : Nat) (h0 : mH) (p : Int × (Int → Int)) (y : Nat) (h : mH) : Prop := ∃ v, LNS Θ (f + 155) v0 h0 v p.1 p.2 y h ∧ KX Θ f c h S (fun _ => False) ∧ HB Θ shD b D h
theorem lb_C {p : Int × (Int → Int)} (l : LB Θ f c S b D v0 h0 p y h) (hv : v0 = f + 156 ∨ f + 168 ≤ v0) (hb : b + 13 ≤ f + 133) (kx : KX Θ f c h0 S (fun _ => False)) (hs : HB Θ shD b D h0) {a : Int} (a0 : 0 ≤ a) (a1 : a < 128) (hn : p.1 ≤ 60) : ∃ h2, P_SB_append_C Θ N h (f + 155) (J a) = some (f + 155, h2) ∧ LB Θ f c S b D v0 h0 (pc1 p a) (y + 1) h2 := by
  obtain ⟨v, l1, -, -⟩ := l
  obtain ⟨v2, h2, e1, e2⟩ := ls_C (N := N) l1 a0 a1 hn
  exact ⟨h2, e1, v2, e2, ls_kx e2 hv kx, ls_hs e2 hv hb hs⟩
theorem lb_I (hN : 2000 ≤ N) {p : Int × (Int → Int)} (l : LB Θ f c S b D v0 h0 p y h) (hv : v0 = f + 156 ∨ f + 168 ≤ v0) (hb : b + 13 ≤ f + 133) (kx : KX Θ f c h0 S (fun _ => False)) (hs : HB Θ shD b D h0) {a : Int} (a0 : 0 ≤ a) (a1 : a < 1000000000) (hn : p.1 ≤ 50) : ∃ h2, P_SB_append_I Θ N h (f + 155) (J a) = some (f + 155, h2) ∧ LB Θ f c S b D v0 h0 (pI1 p a) (y + 1) h2 := by
  obtain ⟨v, l1, -, -⟩ := l
  obtain ⟨v2, h2, e1, e2⟩ := ls_I (N := N) hN l1 a0 a1 hn
  exact ⟨h2, e1, v2, e2, ls_kx e2 hv kx, ls_hs e2 hv hb hs⟩
theorem lb_7 {p : Int × (Int → Int)} (l : LB Θ f c S b D v0 h0 p y h) : rA Θ h 0 f 7 = some (f + 155) := by
  obtain ⟨v, -, l2, -⟩ := l
  exact l2.r7
theorem lb_O {p : Int × (Int → Int)} (l : LB Θ f c S b D v0 h0 p y h) {ρ : Type} {x : Option ρ} : gO Θ h 8 (f + 155) x = x := by
  obtain ⟨v, l1, -, -⟩ := l
  exact sb_O l1.1
theorem lb_s {p : Int × (Int → Int)} (l : LB Θ f c S b D v0 h0 p y h) (hd : DV D (S 1)) (h4 : S 1 4 ≤ 8) {q i : Int} {w : Nat} (q0 : 0 ≤ q) (q1 : q < S 1 4) (i0 : 0 ≤ i) (i1 : i ≤ 8) (hw : sf i = w) (hk : ([none, none, none, none, none, none, none, none, none] : List (Option (Option Nat)))[w]? = some none) : rI Θ h 3 (b + 3 + ro D q) w = some (J (fd (S 1) q i)) := by
  obtain ⟨v, -, -, l3⟩ := l
  exact n_s l3 hd h4 q0 q1 i0 i1 hw hk
noncomputable def bT (Θ : mW) (N f v4 : Nat) (h28 : mH) : Option ((Int32 ⊕ Nat) × mH) := gO Θ h28 3 v4 (bc (P_S_isDocked Θ N h28 v4) (fun v30 h29 => (jn (fun (h32 : mH) => (bo (rA Θ h32 0 f 7) (fun v33 => (gO Θ h32 8 v33 (bc (P_SB_length Θ N h32 v33) (fun v35 h34 => (some (.inl v35, h34)))))))) (fun j31 => (if v30 = 0 then (j31 h29) else (bo (rA Θ h29 0 f 7) (fun v36 => (bo (rA Θ h29 0 f 0) (fun v37 => (bo (rI Θ h29 1 v37 2) (fun v38 => (gO Θ h29 3 v4 (bc (P_S_floatsAt Θ N h29 v4 v38) (fun v40 h39 => (jn (fun (h42 : mH) (s43 : Int32) => (gO Θ h42 8 v36 (bc (P_SB_append_C Θ N h42 v36 s43) (fun v45 h44 => (j31 h44))))) (fun j41 => (if v40 = 0 then (j41 h39 (J 95)) else (j41 h39 (J 126)))))))))))))))))))
theorem lb_len {p : Int × (Int → Int)} (l : LB Θ f c S b D v0 h0 p y h) : bo (rA Θ h 0 f 7) (fun v33 => (gO Θ h 8 v33 (bc (P_SB_length Θ N h v33) (fun v35 h34 => (some ((.inl v35 : Int32 ⊕ Nat), h34)))))) = some (.inl (J p.1), h) := by
  obtain ⟨v, l1, l2, -⟩ := l
  rw [l2.r7, bo_some, sb_O l1.1, sb_length l1.1, bc_some]
theorem l_bT (hd : DV D (S 1)) (I : In c (S 1)) {w : Int} (w0 : 0 ≤ w) (w1 : w < S 1 4) (hv : v0 = f + 156 ∨ f + 168 ≤ v0) (hb : b + 13 ≤ f + 133) (kx : KX Θ f c h0 S (fun _ => False)) (hs : HB Θ shD b D h0) {p : Int × (Int → Int)} (l : LB Θ f c S b D v0 h0 p y h) (hp : p.1 ≤ 40) : ∃ h2, bT Θ N f (b + 3 + ro D w) h = some (.inl (J (bt3 (S 1) w p).1), h2) ∧ LB Θ f c S b D v0 h0 (bt3 (S 1) w p) (y + 1) h2 := by
  have h4 := I.h4
  have l1 := I.h1
  obtain ⟨v, a1, a2, a3⟩ := id l
  have d := c_isDocked (N := N) a3.1 hd I w0 w1
  have fl := c_floatsAt (N := N) a3.1 hd I w0 w1 (x := S 1 1) (by omega) (by omega)
  rw [a3.hd] at d fl
  obtain ⟨b2, D2, r0, hs2, hd2, -, -, -⟩ := a2.now
  unfold bT
  rw [gO3 a3 hd w0 (by omega), d, bc_some, jn_eq]
  unfold bt3
  by_cases z : fd (S 1) w 4 = -1
  · rw [if_neg (show ¬ fd (S 1) w 4 ≠ -1 from fun u => u z), if_pos (show J 0 = (0 : Int32) from rfl), if_pos z]
    exact ⟨h, lb_len l, v, ⟨a1.1, a1.2.1, a1.2.2.up (by omega) (by omega)⟩, a2, a3⟩
  · rw [if_pos (show fd (S 1) w 4 ≠ -1 from z), if_neg (show ¬ J 1 = (0 : Int32) by decide), if_neg z, a2.r7, bo_some, r0, bo_some, n_lvl hs2 hd2, bo_some, gO3 a3 hd w0 (by omega), fl, bc_some, jn_eq]
    by_cases u : fd (S 1) w 2 ≤ S 1 1
    · rw [if_pos (Or.inr u), if_neg (show ¬ J 1 = (0 : Int32) by decide), if_pos u]
      dsimp only
      obtain ⟨h3, e1, e2⟩ := lb_C (N := N) l hv hb kx hs (a := 126) (by omega) (by omega) (by omega)
      refine ⟨h3, ?_, e2⟩
      rw [lb_O l, e1, bc_some]
      exact lb_len e2
    · rw [if_neg (show ¬ (fd (S 1) w 4 = -1 ∨ fd (S 1) w 2 ≤ S 1 1) by omega), if_pos (show J 0 = (0 : Int32) from rfl), if_neg u]
      dsimp only
      obtain ⟨h3, e1, e2⟩ := lb_C (N := N) l hv hb kx hs (a := 95) (by omega) (by omega) (by omega)
      refine ⟨h3, ?_, e2⟩
      rw [lb_O l, e1, bc_some]
      exact lb_len e2
theorem o_bill {i : Int} (hi : int' i) (hN : 2000 ≤ N) (hk : k ≤ 1000) (ww : ZW Θ f k h S S) : OQ Θ f k h S (tbl [10]) (fun _ => True) (P_F_describeBill Θ N h f (J i)) (fun hh => P_R_describeBill Θ N hh (f + 157) (J i)) := by
  obtain ⟨b, D, r0, hs, hd, I, rng, -⟩ := ww.1.now
  obtain ⟨v1, v2, T, U, w1, w2, w3⟩ := ww.2.1.1
  have n1 := ww.2.2.2.1.1
  have h4 := I.h4
  have kx := ww.1
  have q : ∀ h2, bOK Θ 9 (f + 157) h2 → _ := fun h2 hb => q_bill (N := N) (S := S) (h := h2) hN hb I (by omega) hi
  have e : P_F_describeBill Θ N h f (J i) = P_F_describeBill Θ N h f (J i) := rfl
  conv at e =>
    rhs
    unfold P_F_describeBill
    rw [r0, bo_some, rA10 hs, bo_some, gO2 hs, h_known hN hs hd I hi]
  by_cases cc : fnd (S 1) i (mny (S 1)) = -1
  · simp only [if_pos cc] at q e
    exact q_ex ww (T := 1) (by omega) (by omega) rfl e q
  · simp only [if_neg cc] at q e
    have fl := fnd_lt I cc
    have fi := fnd_id (V := S 1) (id := i) _ cc
    generalize fnd (S 1) i (mny (S 1)) = w at fl fi e q
    have sh := I.sh w fl.1 fl.2
    unfold shOK at sh
    have h5 := I.h5
    have h7 := I.h7
    have bi := Inv.bill I fl.1 fl.2
    have m1 := nd_rng i
    have m2 := nd_rng (fd (S 1) w 8)
    have m3 := nd_rng (fd (S 1) w 3)
    have m4 := nd_rng (fd (S 1) w 6)
    have rb : b + 13 ≤ f + 133 := rng.2
    obtain ⟨h1, p1, p2⟩ := ls_0 (N := N) w2
    have l0 : LB Θ f (k - S 0 10) S b D v2 h (0, S 6) 0 h1 := ⟨v2, p2, ls_kx p2 w3.2.1 kx, ls_hs p2 w3.2.1 rb hs⟩
    obtain ⟨g1, a1, l1⟩ := lb_C (N := N) l0 w3.2.1 rb kx hs (a := 35) (by omega) (by omega) (by dsimp only; omega)
    obtain ⟨g2, a2, l2⟩ := lb_I (N := N) hN l1 w3.2.1 rb kx hs (a := i) (by omega) (by omega) (by unfold pc1; dsimp only; omega)
    obtain ⟨g3, a3, l3⟩ := lb_C (N := N) l2 w3.2.1 rb kx hs (a := 58) (by omega) (by omega) (by unfold pI1 pc1; dsimp only; omega)
    obtain ⟨g4, a4, l4⟩ := lb_I (N := N) hN l3 w3.2.1 rb kx hs (a := fd (S 1) w 8) (by omega) (by omega) (by unfold pc1 pI1; dsimp only; omega)
    obtain ⟨g5, a5, l5⟩ := lb_C (N := N) l4 w3.2.1 rb kx hs (a := 47) (by omega) (by omega) (by unfold pI1 pc1; dsimp only; omega)
    obtain ⟨g6, a6, l6⟩ := lb_I (N := N) hN l5 w3.2.1 rb kx hs (a := fd (S 1) w 3) (by omega) (by omega) (by unfold pc1 pI1; dsimp only; omega)
    have b1 := bt1_le (V := S 1) (w := w) (id := i) (β := S 6)
    have l6' : LB Θ f (k - S 0 10) S b D v2 h (bt1 (S 1) w i (S 6)) 6 g6 := l6
    have b2 := bt2_le (V := S 1) (w := w) (p := bt1 (S 1) w i (S 6)) b1.1 b1.2
    have n0 : ∀ {hh p y}, LB Θ f (k - S 0 10) S b D v2 h p y hh → rI Θ hh 3 (b + 3 + ro D w) 0 = some (J (fd (S 1) w 0)) := fun l => lb_s l hd h4.2 fl.1 fl.2 (i := 0) (w := 0) (by decide) (by decide) rfl rfl
    have n6 : ∀ {hh p y}, LB Θ f (k - S 0 10) S b D v2 h p y hh → rI Θ hh 3 (b + 3 + ro D w) 6 = some (J (fd (S 1) w 8)) := fun l => lb_s l hd h4.2 fl.1 fl.2 (i := 8) (w := 6) (by decide) (by decide) rfl rfl
    have n3 : ∀ {hh p y}, LB Θ f (k - S 0 10) S b D v2 h p y hh → rI Θ hh 3 (b + 3 + ro D w) 3 = some (J (fd (S 1) w 3)) := fun l => lb_s l hd h4.2 fl.1 fl.2 (i := 3) (w := 3) (by decide) (by decide) rfl rfl
    have n4 : ∀ {hh p y}, LB Θ f (k - S 0 10) S b D v2 h p y hh → rI Θ hh 3 (b + 3 + ro D w) 4 = some (J (fd (S 1) w 6)) := fun l => lb_s l hd h4.2 fl.1 fl.2 (i := 6) (w := 4) (by decide) (by decide) rfl rfl
    have fin : ∀ (hh : mH) (y : Nat), y ≤ 60 → LB Θ f (k - S 0 10) S b D v2 h (bt2 (S 1) w (bt1 (S 1) w i (S 6))) y hh → P_F_describeBill Θ N h f (J i) = bT Θ N f (b + 3 + ro D w) hh → OQ Θ f k h S (tbl [10]) (fun _ => True) (P_F_describeBill Θ N h f (J i)) (fun hh => P_R_describeBill Θ N hh (f + 157) (J i)) := fun hh y hy l e => by
      obtain ⟨h9, z1, z2⟩ := l_bT (N := N) hd I fl.1 fl.2 w3.2.1 rb kx hs l b2.2
      obtain ⟨v9, z3, z4, z5⟩ := z2
      have le : (bt3 (S 1) w (bt2 (S 1) w (bt1 (S 1) w i (S 6)))).1 ≤ 60 := by
        unfold bt3 pc1
        split
        · omega
        · dsimp only; omega
      have zz : ZW Θ f (k + 1) h9 S (up2 (r6 (T13 S 0) (bilR S w i).2) 0 12 (bilR S w i).1) := by
        have e12 : up2 (r6 (T13 S 0) (bilR S w i).2) 0 12 (bilR S w i).1 0 12 = (bilR S w i).1 := up2_eq
        have e6 : up2 (r6 (T13 S 0) (bilR S w i).2) 0 12 (bilR S w i).1 6 = (bilR S w i).2 := by rw [up2_row (by decide), r6_6]
        exact zw_lin ww ⟨v1, T, U, w1, w2, w3⟩ (v2 := v9) (y := y + 1) (by rw [e12, e6]; exact z3) (by omega) (by rw [e12]; exact le) (fun a a0 a6 => by rw [up2_row a0, r6_o a6, T13_o a0]) (fun j j1 j2 => by rw [up2_nj j1, r6_o (by decide), T13_j j2])
      refine ⟨(bilR S w i).1, 0, h9, ?_, by omega, fun z => (z rfl).elim, fun _ => trivial, ⟨_, zz⟩, fun h3 hb => ⟨_, _, q h3 hb, ?_, fun _ => rfl, zz⟩⟩
      · rw [e, z1]
        rfl
      · rw [up2_nj (by decide), r6_o (by decide), T13_t]
    rw [bx_inl, kx.r7, bo_some, sb_O w2, p1, bc_some, lb_7 l0, bo_some, lb_O l0, a1, bc_some, n0 l1, bo_some, lb_O l1, fi, a2, bc_some, lb_7 l2, bo_some, lb_O l2, a3, bc_some, n6 l3, bo_some, lb_O l3, a4, bc_some, lb_7 l4, bo_some, lb_O l4, a5, bc_some, n3 l5, bo_some, lb_O l5, a6, bc_some, n4 l6, bo_some, jn_eq] at e
    by_cases z : fd (S 1) w 6 = 0
    · rw [if_pos (show J (fd (S 1) w 6) = (0 : Int32) by rw [z]; rfl)] at e
      refine fin g6 6 (by omega) ?_ e
      unfold bt2
      rw [if_pos z]
      exact l6'
    · obtain ⟨g7, a7, l7⟩ := lb_C (N := N) l6' w3.2.1 rb kx hs (a := 33) (by omega) (by omega) (by omega)
      obtain ⟨g8, a8, l8⟩ := lb_I (N := N) hN l7 w3.2.1 rb kx hs (a := fd (S 1) w 6) (by omega) (by omega) (by unfold pc1; dsimp only; omega)
      rw [if_neg (show ¬ J (fd (S 1) w 6) = (0 : Int32) by rw [J_eq0] <;> omega), lb_7 l6', bo_some, lb_O l6', a7, bc_some, n4 l7, bo_some, lb_O l7, a8, bc_some] at e
      refine fin g8 8 (by omega) ?_ e
      unfold bt2
      rw [if_neg z]
      exact l8
end BM
