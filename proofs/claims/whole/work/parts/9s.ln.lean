/-! the line: describeDock, describeBill -/
def r6 (S : Nat → Int → Int) (g : Int → Int) : Nat → Int → Int := fun a => if a = 6 then g else S a
def LNS (Θ : mW) (q v0 : Nat) (h0 : mH) (v : Nat) (n : Int) (β : Int → Int) (y : Nat) (h : mH) : Prop := SBs Θ q v n β h ∧ (v = v0 ∨ mwB Θ + h0.length ≤ v) ∧ Nx Θ h0 h (fun x => x = q ∨ x = v0 ∨ mwB Θ + h0.length ≤ x) y (140 * y)
section LN
variable {Θ : mW} {N f b m q v0 v y : Nat} {c k n t : Int} {S S' S2 : Nat → Int → Int} {h h0 h2 : mH} {bO : (Int → Int) → Prop} {D G : Nat → Int → Int} {V β g : Int → Int}
theorem r6_o {a : Nat} (ha : a ≠ 6) : r6 S g a = S a := if_neg ha
theorem r6_6 : r6 S g 6 = g := if_pos rfl
theorem r6_r6 {g2 : Int → Int} : r6 (r6 S g) g2 = r6 S g2 := by
  funext a
  unfold r6
  by_cases z : a = 6
  · rw [if_pos z, if_pos z]
  · rw [if_neg z, if_neg z, if_neg z]
theorem r6_up {t d : Int} : up2 S 6 t d = r6 S (up1 (S 6) t d) := by
  funext a
  unfold r6
  by_cases z : a = 6
  · rw [if_pos z, z]
    unfold up2
    rw [if_pos rfl]
  · rw [if_neg z, up2_row z]
theorem SBs.cong (hs : SBs Θ q v n β h) (e : ∀ j : Int, 0 ≤ j → j < n → β j = g j) : SBs Θ q v n g h := by
  obtain ⟨B, A, cap, b1, b2, b3, b4, b5, b6, b7⟩ := hs
  exact ⟨B, A, cap, b1, b2, b3, b4, b5, b6, fun j j0 j1 => (b7 j j0 j1).trans (e j j0 j1)⟩
theorem ls_st (l : LNS Θ q v0 h0 v n β y h) {v2 : Nat} {n2 : Int} {β2 : Int → Int} (s2 : SBs Θ q v2 n2 β2 h2) (e : v2 = v ∨ mwB Θ + h.length ≤ v2) (x : Nx Θ h h2 (fun x => x = q ∨ x = v) 1 140) : LNS Θ q v0 h0 v2 n2 β2 (y + 1) h2 := by
  obtain ⟨l1, l2, l3⟩ := l
  have hl := l3.1.1
  refine ⟨s2, by omega, (l3.trans (x.wid (fun u hu p => ?_) (Nat.le_refl _) (Nat.le_refl _))).up (by omega) (by omega)⟩
  omega
theorem ls_C (l : LNS Θ q v0 h0 v n β y h) {a : Int} (a0 : 0 ≤ a) (a1 : a < 128) (hn : n ≤ 60) : ∃ v2 h2, P_SB_append_C Θ N h q (J a) = some (q, h2) ∧ LNS Θ q v0 h0 v2 (n + 1) (up1 β n a) (y + 1) h2 := by
  obtain ⟨v2, h2, p1, p2, p3, p4⟩ := sb_putC (N := N) l.1 a0 a1 hn
  exact ⟨v2, h2, p1, ls_st l p2 p3 p4⟩
theorem ls_I (hN : 2000 ≤ N) (l : LNS Θ q v0 h0 v n β y h) {a : Int} (a0 : 0 ≤ a) (a1 : a < 1000000000) (hn : n ≤ 50) : ∃ v2 h2, P_SB_append_I Θ N h q (J a) = some (q, h2) ∧ LNS Θ q v0 h0 v2 (n + nd a) (wdg β n a) (y + 1) h2 := by
  obtain ⟨v2, h2, p1, p2, p3, p4⟩ := sb_putI (N := N) hN l.1 a0 a1 hn
  exact ⟨v2, h2, p1, ls_st l p2 p3 p4⟩
theorem ls_0 (hs : SBs Θ q v n β h) : ∃ h2, P_SB_setLength Θ N h q (J 0) = some ((), h2) ∧ LNS Θ q v h v 0 β 0 h2 := by
  obtain ⟨h2, p1, p2, p3⟩ := sb_clear (N := N) hs
  exact ⟨h2, p1, p2, Or.inl rfl, p3.wid (fun u _ p => Or.inl p) (by omega) (by omega)⟩
theorem ls_kx (l : LNS Θ (f + 155) v0 h0 v n β y h) (h0v : v0 = f + 156 ∨ f + 168 ≤ v0) (kx : KX Θ f c h0 S bO) : KX Θ f c h S bO := by
  have x : Nx Θ h0 h (fun x => f + 150 ≤ x) y (140 * y) := l.2.2.wid (fun u hu p => by omega) (by omega) (by omega)
  exact kx.nx x (fun u hu p => by unfold KR at hu; omega)
theorem ls_hs (l : LNS Θ (f + 155) v0 h0 v n β y h) (h0v : v0 = f + 156 ∨ f + 168 ≤ v0) (hb : b + 13 ≤ f + 133) (hs : HB Θ shD b D h0) : HB Θ shD b D h := by
  have x : Nx Θ h0 h (fun x => f + 150 ≤ x) y (140 * y) := l.2.2.wid (fun u hu p => by omega) (by omega) (by omega)
  exact hs.nx x (fun u u1 u2 p => by have : shD.length = 13 := rfl; omega)
theorem zw_lin (ww : ZW Θ f k h S S) {v2 : Nat} (w2 : ∃ v1 T U, CT Θ (f + 151) (f + 154) (f + 152) v1 (S 0 10) (S 5) T U h ∧ SBs Θ (f + 155) v0 (S 0 12) (S 6) h ∧ ((v1 = f + 153 ∨ f + 168 ≤ v1) ∧ (v0 = f + 156 ∨ f + 168 ≤ v0) ∧ v1 ≠ v0)) (l : LNS Θ (f + 155) v0 h v2 (S2 0 12) (S2 6) y h2) (hy : y ≤ 70) (n0 : S2 0 12 ≤ 60) (ea : ∀ a : Nat, a ≠ 0 → a ≠ 6 → S2 a = S a) (ej : ∀ j : Int, j ≠ 12 → j ≠ 13 → S2 0 j = S 0 j) : ZW Θ f (k + 1) h2 S S2 := by
  obtain ⟨v1, T, U, c1, c2, c3⟩ := w2
  obtain ⟨wk, ⟨-, ⟨G, wg⟩, wo, wd⟩, wr, wn, wz⟩ := id ww
  obtain ⟨n1, n2, n3, n4, n5⟩ := id wn
  have lv := zw_sb c1.2.2.1
  have lg := gt_lt wd.choose_spec
  have lg2 := (gt_some wd.choose_spec).1
  have x : Nx Θ h h2 (fun x => x = f + 155 ∨ x = v0 ∨ mwB Θ + h.length ≤ x) y (140 * y) := l.2.2
  refine zw_g ww x (by omega) (by omega) (fun u hu => by omega) ?_ ⟨v1, v2, T, U, ?_, l.1, ?_⟩ ⟨G, wg.nx x (fun u u1 u2 => by have : shG.length = 5 := rfl; omega)⟩ ?_
  · rw [ej 10 (by decide) (by decide)]
    exact ((ls_kx l c3.2.1 wk).mono (by omega)).sm ⟨ej 4 (by decide) (by decide), ej 5 (by decide) (by decide), ej 6 (by decide) (by decide), ej 7 (by decide) (by decide), ej 8 (by decide) (by decide), ea 1 (by decide) (by decide), ea 3 (by decide) (by decide), ea 4 (by decide) (by decide)⟩
  · rw [ej 10 (by decide) (by decide), ea 5 (by decide) (by decide)]
    exact c1.nx x (fun u hu => by omega)
  · have := l.2.1
    refine ⟨c3.1, by omega, by omega⟩
  · have := sb_0 l.1
    unfold WN
    rw [ej 10 (by decide) (by decide), ej 8 (by decide) (by decide), ej 6 (by decide) (by decide), ej 7 (by decide) (by decide)]
    exact ⟨by omega, ⟨this, n0⟩, n3, n4, n5⟩
/-! describeDock -/
theorem sgn_rng (I : In c V) (hc : c ≤ 10000) {p : Int} (p0 : 0 ≤ p) (p1 : p < 60) : 0 ≤ sgn V p ∧ sgn V p < 128 := by
  unfold sgn
  split
  · split <;> omega
  · omega
theorem l_dock_L (hN : 2000 ≤ N) (hc : c ≤ 10000) (kx : KX Θ f c h0 S bO) (h0v : v0 = f + 156 ∨ f + 168 ≤ v0) {K : mH → Option (Int32 × mH)} : ∀ (r : Nat) (j : Int) (w : Nat) (v : Nat) (β : Int → Int) (h : mH) (y : Nat), LNS Θ (f + 155) v0 h0 v j β y h → 0 ≤ j → j + r = 60 → r < w → (∀ i : Int, 0 ≤ i → i < j → β i = sgn (S 1) i) → ∃ v2 β2 h2, P_F_describeDock_10 Θ N K f w h (J j) = K h2 ∧ LNS Θ (f + 155) v0 h0 v2 60 β2 (y + r) h2 ∧ (∀ i : Int, 0 ≤ i → i < 60 → β2 i = sgn (S 1) i) := by
  intro r
  induction r with
  | zero =>
    intro j w v β h y l j0 hj hw hβ
    obtain ⟨w, rfl⟩ : ∃ n', w = n' + 1 := ⟨w - 1, by omega⟩
    have e : j = 60 := by omega
    subst e
    refine ⟨v, β, h, ?_, l, hβ⟩
    rw [E_F_describeDock_10, B_F_describeDock_10, if_pos (by rw [J_le] <;> omega)]
  | succ r ih =>
    intro j w v β h y l j0 hj hw hβ
    obtain ⟨w, rfl⟩ : ∃ n', w = n' + 1 := ⟨w - 1, by omega⟩
    have kx2 := ls_kx l h0v kx
    obtain ⟨b, D, r0, hs, hd, I, -, -⟩ := kx2.now
    have sr := sgn_rng I hc j0 (by omega : j < 60)
    have sg := c_sign (N := N) hN hs.1 hd I (p := j) j0 (by omega)
    rw [hs.hd] at sg
    obtain ⟨v2, h2, q1, q2⟩ := ls_C (N := N) l sr.1 sr.2 (by omega)
    obtain ⟨v3, β3, h3, s1, s2, s3⟩ := ih (j + 1) w v2 _ h2 (y + 1) q2 (by omega) (by omega) (by omega) (fun i i0 i1 => by
      rw [up1_at]
      by_cases z : i = j
      · rw [if_pos z, z]
      · rw [if_neg z]; exact hβ i i0 (by omega))
    refine ⟨v3, β3, h3, ?_, by rw [show y + (r + 1) = y + 1 + r by omega]; exact s2, s3⟩
    rw [E_F_describeDock_10, B_F_describeDock_10, if_neg (by rw [J_le] <;> omega), kx2.r7, bo_some, r0, bo_some, gO1 hs, sg, bc_some, sb_O l.1, q1, bc_some, J_add]
    exact s1
def dds (S : Nat → Int → Int) (j : Int) : Nat → Int → Int := r6 S (fun i => if 0 ≤ i ∧ i < j then sgn (S 1) i else S 6 i)
theorem s_dock_L (hN : 2000 ≤ N) (hb : bOK Θ 9 m h) (hV : OKV (S 1)) (h00 : ∀ k : Int, 0 ≤ k → k < S 1 4 → 0 ≤ fd (S 1) k 0) {K : mH → Option (Int32 × mH)} : ∀ (r : Nat) (j : Int) (w : Nat), 0 ≤ j → j + r = 60 → r < w → P_R_describeDock_7 Θ N K m w (HR Θ m (dds S j) h) (J j) = K (HR Θ m (dds S 60) h) := by
  intro r
  have e1 : ∀ j, dds S j 1 = S 1 := fun j => r6_o (by decide)
  induction r with
  | zero =>
    intro j w j0 hj hw
    obtain ⟨w, rfl⟩ : ∃ n', w = n' + 1 := ⟨w - 1, by omega⟩
    rw [E_R_describeDock_7, B_R_describeDock_7, if_pos (by rw [J_le] <;> omega), show j = 60 by omega]
  | succ r ih =>
    intro j w j0 hj hw
    obtain ⟨w, rfl⟩ : ∃ n', w = n' + 1 := ⟨w - 1, by omega⟩
    have al := at_le (S := S) hV (p := j)
    have hm := hV.2
    have st : up2 (dds S j) 6 j (sgn (S 1) j) = dds S (j + 1) := by
      rw [r6_up]
      unfold dds
      rw [r6_r6, r6_6]
      congr 1
      funext i
      rw [up1_at]
      by_cases z : i = j
      · rw [if_pos z, if_pos (by omega), z]
      · rw [if_neg z]
        by_cases z2 : 0 ≤ i ∧ i < j
        · rw [if_pos z2, if_pos (by omega)]
        · rw [if_neg z2, if_neg (by omega)]
    have sa := s_at (N := N) (S := dds S j) hN hb (by rw [e1]; exact hV) (p := j) (by omega) (by omega)
    have si := s_isBlock (N := N) (S := dds S j) hb (by rw [e1]; exact hV) (p := j) (by omega) (by omega)
    rw [e1] at sa si
    have fin : ∀ x : Int, x = sgn (S 1) j → bo (aW Θ (HR Θ m (dds S j) h) 0 (m + 6) (J j) (J x)) (fun h8 => P_R_describeDock_7 Θ N K m w h8 (J j + J 1)) = K (HR Θ m (dds S 60) h) := fun x hx => by
      rw [r_w6 hb j0 (by omega), bo_some, hx, st, J_add]
      exact ih (j + 1) w (by omega) (by omega) (by omega)
    rw [E_R_describeDock_7, B_R_describeDock_7, if_neg (by rw [J_le] <;> omega), r_O hb, sa, bc_some, r_A11 hb, bo_some, jn_eq]
    by_cases ca : at' (S 1) j = -1
    · rw [if_pos (by rw [ca]), r_O hb, si, bc_some]
      by_cases cb : S 1 (80 + j) = 1
      · rw [if_pos (show (0 ≤ j ∧ j ≤ 59) ∧ S 1 (80 + j) = 1 from ⟨⟨j0, by omega⟩, cb⟩), if_neg (show ¬ J 1 = (0 : Int32) by decide)]
        exact fin 94 (by unfold sgn; rw [if_pos ca, if_pos cb])
      · rw [if_neg (show ¬ ((0 ≤ j ∧ j ≤ 59) ∧ S 1 (80 + j) = 1) from fun z => cb z.2), if_pos (show J 0 = (0 : Int32) from rfl)]
        exact fin 46 (by unfold sgn; rw [if_pos ca, if_neg cb])
    · have g0 := h00 (at' (S 1) j) (by omega) (by omega)
      have ok := hV.1 (8 + 9 * at' (S 1) j + 0)
      have g1 : fd (S 1) (at' (S 1) j) 0 ≤ 100000000 := ok.2
      have so := s_ofK (N := N) (S := dds S j) hb (k := at' (S 1) j) (i := 0) (by omega) (by omega) (by omega) (by omega)
      rw [e1] at so
      rw [if_neg (by rw [J_eq] <;> omega), r_O hb, so, bc_some, J_rem10 g0 (by omega), J_add 48]
      exact fin _ (by unfold sgn; rw [if_neg ca])
theorem o_dock (hN : 2000 ≤ N) (hk : k ≤ 1000) (ww : ZW Θ f k h S S) : OPn Θ f k h S (P_F_describeDock Θ N h f) (fun hh => P_R_describeDock Θ N hh (f + 157)) := by
  obtain ⟨v1, v2, T, U, w1, w2, w3⟩ := ww.2.1.1
  have n1 := ww.2.2.2.1.1
  have wk := ww.1
  have I := wk.ok.1
  obtain ⟨h1, p1, p2⟩ := ls_0 (N := N) w2
  obtain ⟨v3, β3, h3, q1, q2, q3⟩ := l_dock_L (N := N) hN (by omega) wk w3.2.1 (K := fun h10 => (bo (rA Θ h10 0 f 7) (fun v11 => (gO Θ h10 8 v11 (bc (P_SB_length Θ N h10 v11) (fun v13 h12 => (some (v13, h12)))))))) 60 0 N v2 (S 6) h1 0 p2 (by omega) (by omega) (by omega) (fun i i0 i1 => by omega)
  have kx3 := ls_kx q2 w3.2.1 wk
  have e12 : up2 (dds (T13 S 0) 60) 0 12 60 0 12 = 60 := up2_eq
  have e6 : up2 (dds (T13 S 0) 60) 0 12 60 6 = fun i => if 0 ≤ i ∧ i < 60 then sgn (S 1) i else S 6 i := by
    rw [up2_row (by decide)]
    unfold dds
    rw [r6_6, T13_1, T13_o (by decide)]
  refine ⟨60, up2 (dds (T13 S 0) 60) 0 12 60, h3, ?_, ?_, ?_⟩
  · unfold P_F_describeDock
    rw [wk.r7, bo_some, sb_O w2, p1, bc_some, q1, kx3.r7, bo_some, sb_O q2.1, sb_length q2.1, bc_some]
  · have hb : bOK Θ 9 (f + 157) h3 := ww.2.2.1.1.nx q2.2.2
    have d0 : dds (T13 S 0) 0 = T13 S 0 := by
      funext a
      unfold dds r6
      by_cases z : a = 6
      · rw [if_pos z, z]
        funext i
        rw [if_neg (by omega)]
      · rw [if_neg z]
    have dl := s_dock_L (N := N) (S := T13 S 0) hN hb (by rw [T13_1]; exact Inv.ok I) (by
      rw [T13_1]
      intro k k0 k1
      have := I.sh k k0 k1
      unfold shOK at this
      omega) (K := fun h13 => (bo (wF Θ h13 9 (f + 157) 12 (.int (J 60))) (fun h14 => (some ((J 60), h14))))) 60 0 N (by omega) (by omega) (by omega)
    rw [d0] at dl
    unfold P_R_describeDock
    dsimp only
    rw [r_W13 hb, bo_some]
    refine dl.trans ?_
    rw [r_W12 hb, bo_some]
  · have q4 : LNS Θ (f + 155) v2 h v3 (up2 (dds (T13 S 0) 60) 0 12 60 0 12) (up2 (dds (T13 S 0) 60) 0 12 60 6) (0 + 60) h3 := by
      rw [e12, e6]
      exact ⟨q2.1.cong (fun j j0 j1 => by rw [q3 j j0 j1, if_pos ⟨j0, j1⟩]), q2.2⟩
    exact zw_lin ww ⟨v1, T, U, w1, w2, w3⟩ q4 (by omega) (by rw [e12]; omega) (fun a a0 a6 => by rw [up2_row a0]; unfold dds; rw [r6_o a6, T13_o a0]) (fun j j1 j2 => by rw [up2_nj j1]; unfold dds; rw [r6_o (by decide), T13_j j2])
end LN
