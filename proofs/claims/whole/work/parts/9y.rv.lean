/-! run, class and reference side by side -/
section RV
variable {Θ : mW} {N f m b q v : Nat} {n k c : Int} {τ : Int → Int} {S S2 T U : Nat → Int → Int} {h h2 : mH} {bO : (Int → Int) → Prop}
theorem t_clr (cc : CT Θ (f + 151) (f + 154) q v n τ T U h) : ∃ h2, P_T_clear Θ N h (f + 151) = some ((), h2) ∧ CT Θ (f + 151) (f + 154) q v 0 τ T U h2 ∧ Nx Θ h h2 (fun x => x = q) 0 0 := by
  obtain ⟨h2, p1, p2, p3⟩ := sb_clear (N := N) cc.2.2.1
  obtain ⟨c1, c2, c3, c4, c5⟩ := id cc
  refine ⟨h2, ?_, ⟨c1.nx p3 (fun u u1 u2 => ?_), c2.nx p3 (fun u u1 u2 => ?_), p2, c4, c5⟩, p3⟩
  · unfold P_T_clear
    rw [ct_q cc, bo_some, sb_O c3, p1, bc_some]
  · have : shT.length = 1 := rfl
    omega
  · have : shN.length = 1 := rfl
    omega
theorem kx_w9 (kx : KX Θ f c h S bO) {e : Int} : ∃ h2, wF Θ h 0 f 9 (.int (J e)) = some h2 ∧ KX Θ f c h2 (up2 S 0 6 e) bO ∧ Nx Θ h h2 (KR f) 0 0 := kx.w (Or.inr (Or.inl rfl)) (fun z => by cases z) (by
    unfold KF
    simp [up2_at]) (up2_nj (by decide)) (fun a ha => up2_row ha)
theorem kx_w10 (kx : KX Θ f c h S bO) {e : Int} : ∃ h2, wF Θ h 0 f 10 (.int (J e)) = some h2 ∧ KX Θ f c h2 (up2 S 0 7 e) bO ∧ Nx Θ h h2 (KR f) 0 0 := kx.w (Or.inr (Or.inr (Or.inl rfl))) (fun z => by cases z) (by
    unfold KF
    simp [up2_at]) (up2_nj (by decide)) (fun a ha => up2_row ha)
theorem run_pt (mi : mI Θ) (hN : 2000 ≤ N) (hk : k ≤ 1000) (ww : ZW Θ f k h S S) {hr : mH} (hbr : bOK Θ 9 (f + 157) hr) : ∃ (v v' Tc : Int) (h1 : mH) (S' : Nat → Int → Int), (P_F_run Θ N h f = if Tc = 0 then some (.inl (J v), h1) else some (.inr (tbl [11, 12] Tc), h1)) ∧ (0 ≤ Tc ∧ Tc ≤ 4) ∧ (Tc ≠ 0 → tbl [11, 12] Tc ≠ 0) ∧ (Tc = 0 → True) ∧ int' v ∧ P_R_run Θ N (HR Θ (f + 157) S hr) (f + 157) = some (J v', HR Θ (f + 157) S' hr) ∧ S' 0 13 = Tc ∧ (Tc = 0 → v' = v) ∧ ZW Θ f (k + 1) h1 S S' := by
  obtain ⟨wk, ⟨⟨v1, v2, T, U, w1, w2, w3⟩, -⟩, wr, wn, -⟩ := id ww
  obtain ⟨n1, n2, n3, n4, n5⟩ := id wn
  obtain ⟨h2, T2, U2, f1, f2, f3, f4⟩ := t_findError (N := N) hN n1.2.1 w1
  obtain ⟨S1, g1, g2, g3, g4, g5, g6⟩ := s_readsAll (N := N) hN hbr ⟨n1.1, n1.2.1⟩ (fun j j0 j1 => sb_rng w1.2.2.1 j0 j1)
  have rr := ra_rng (τ := S 5) (n := S 0 10) 60 0 (by omega) (by omega)
  have rl := ra_len (τ := S 5) (n := S 0 10) 60 0 (by omega) (by omega)
  have kxt : ∀ {c : Int} {ha hb : mH} {S : Nat → Int → Int} {bO : (Int → Int) → Prop}, KX Θ f c ha S bO → Nx Θ ha hb (TU (f + 151) (f + 154)) 0 0 → KX Θ f c hb S bO := fun kx x => kx.nx x (fun u hu p => by
    unfold KR at hu
    have : u = f + 151 ∨ u = f + 154 := p
    omega)
  have ctk : ∀ {n : Int} {T U : Nat → Int → Int} {ha hb : mH}, CT Θ (f + 151) (f + 154) (f + 152) v1 n (S 5) T U ha → Nx Θ ha hb (KR f) 0 0 → CT Θ (f + 151) (f + 154) (f + 152) v1 n (S 5) T U hb := fun cc x => cc.nx x (fun u hu p => by unfold KR at p; omega)
  have kx2 := kxt wk f3
  have xT : Nx Θ h h2 (fun u => KR f u ∨ u = f + 151 ∨ u = f + 152 ∨ u = f + 154) 0 0 := f3.wid (fun u _ p => by
    have : u = f + 151 ∨ u = f + 154 := p
    omega) (by omega) (by omega)
  have wK : ∀ {ha hb : mH}, Nx Θ ha hb (KR f) 0 0 → Nx Θ ha hb (fun u => KR f u ∨ u = f + 151 ∨ u = f + 152 ∨ u = f + 154) 0 0 := fun x => x.wid (fun u _ p => Or.inl p) (by omega) (by omega)
  by_cases ce : (ra (S 5) (S 0 10) 60 0).1 = -1
  · have rl2 := rl ce
    obtain ⟨g7, g8⟩ := g6 ce
    have f5 := f4 ce
    rw [ce] at f1 g5
    obtain ⟨h4, a1, a2, a3⟩ := k_start (N := N) hN kx2
    have cc4 := ctk f2 a3
    obtain ⟨h9, T3, b1, b2, b3, b4, b5, b6⟩ := t_rewind (N := N) cc4
    have kx9 := kxt a2 b3
    have c2 : ∀ i : Nat, i ≠ 2 → cpy S1 1 0 2 0 140 i = S1 i := fun i hi => cpy_r hi
    have e3 : ∀ i : Nat, i ≠ 0 → i ≠ 2 → i ≠ 8 → T13 (cpy S1 1 0 2 0 140) 0 i = S i := fun i i0 i2 i8 => by rw [T13_o i0, c2 i i2, g2 i i0 i8]
    have e38 : T13 (cpy S1 1 0 2 0 140) 0 8 = S1 8 := by rw [T13_o (by decide), c2 8 (by decide)]
    have e32 : ∀ j : Int, 0 ≤ j → j < 140 → T13 (cpy S1 1 0 2 0 140) 0 2 j = S 1 j := fun j j0 j1 => by
      rw [T13_o (by decide), cpy_at, if_pos (by omega), g2 1 (by decide) (by decide)]
      exact congrArg (S 1) (by omega)
    have e30 : ∀ j : Int, j ≠ 10 → j ≠ 13 → j ≠ 15 → j ≠ 16 → j ≠ 17 → j ≠ 18 → T13 (cpy S1 1 0 2 0 140) 0 0 j = S 0 j := fun j j1 j2 j3 j4 j5 j6 => by rw [T13_j j2, c2 0 (by decide), g3 j j1 j3 j4 j5 j6]
    have e310 : T13 (cpy S1 1 0 2 0 140) 0 0 10 = 0 := by rw [T13_j (by decide), c2 0 (by decide), g4]
    have e318 : T13 (cpy S1 1 0 2 0 140) 0 0 18 = (ra (S 5) (S 0 10) 60 0).2.length := by rw [T13_j (by decide), c2 0 (by decide), g7]
    have e313 : T13 (cpy S1 1 0 2 0 140) 0 0 13 = 0 := T13_t
    generalize hS3 : T13 (cpy S1 1 0 2 0 140) 0 = S3 at e3 e38 e32 e30 e310 e318 e313
    have sm : Sm S S3 := ⟨e30 4 (by decide) (by decide) (by decide) (by decide) (by decide) (by decide), e30 5 (by decide) (by decide) (by decide) (by decide) (by decide) (by decide), e30 6 (by decide) (by decide) (by decide) (by decide) (by decide) (by decide), e30 7 (by decide) (by decide) (by decide) (by decide) (by decide) (by decide), e30 8 (by decide) (by decide) (by decide) (by decide) (by decide) (by decide), e3 1 (by decide) (by decide) (by decide), e3 3 (by decide) (by decide) (by decide), e3 4 (by decide) (by decide) (by decide)⟩
    have kxs := kx9.sm sm
    have r8 : 0 ≤ S3 0 8 ∧ S3 0 8 ≤ 4 := by rw [e30 8 (by decide) (by decide) (by decide) (by decide) (by decide) (by decide)]; exact n3
    have era : ra (S 5) (S 0 10) 60 0 = (-1, (ra (S 5) (S 0 10) 60 0).2) := Prod.ext ce rfl
    generalize hL : (ra (S 5) (S 0 10) 60 0).2 = L at era rl2 g7 g8 f5 e318
    obtain ⟨S', h', j, T', U', y1, y2, y3, y4, y5, y6, y7, y8, y9, y10, y11⟩ := run_L (N := N) (m := f + 157) (V0 := S 1) mi hN n1.2.1 (tot := L.length) (K := fun h16 u17 => (bo (rA Θ h16 0 f 6) (fun v18 => (gO Θ h16 7 v18 (bc (P_T_clear Θ N h16 v18) (fun v20 h19 => (if J L.length ≤ u17 then (gO Θ h19 0 f (bc (P_F_keepChange Θ N h19 f) (fun v22 h21 => (some (.inl (J L.length), h21))))) else (bo (rA Θ h19 0 f 0) (fun v23 => (bo (rA Θ h19 0 f 1) (fun v24 => (gO Θ h19 1 v23 (bc (P_D_copyFrom Θ N h19 v23 v24) (fun v26 h25 => (bo (wF Θ h25 0 f 10 (.int u17)) (fun h27 => (xp 12 (h27 ++ [oB 12 []])))))))))))))))))) (K2 := fun h17 => (bo (rI Θ h17 9 (f + 157) 18) (fun v18 => (gO Θ h17 9 (f + 157) (bc (P_R_ends Θ N h17 (f + 157) v18) (fun v20 h19 => (some (v20, h19)))))))) L 0 60 (k - S 0 10) h9 S3 T3 U2 N N kxs b2 (by omega) (Or.inr ⟨by omega, by omega, by rw [b4]; exact era⟩) (rcL_8 e38 L 0 g8) e318 (by omega) (by omega) (by omega) (by omega) (by omega) (by omega) (by omega) e313 r8
    have cls := Eq.refl (P_F_run Θ N h f)
    conv at cls =>
      rhs
      unfold P_F_run
      rw [wk.r6, bo_some, ct_O w1, f1, bc_some, if_pos rfl, kx2.gO, a1, bc_some, a2.r6, bo_some, ct_3 cc4, bo_some, bo_some, ct_O cc4, b1, bc_some, f5, y1]
    have kx' := y3
    obtain ⟨h19, d1, d2, d3⟩ := t_clr (N := N) y4
    have kxc : KX Θ f (k - S 0 10 + L.length) h19 S' (fun B => B = S 1) := kx'.nx d3 (fun u hu p => by unfold KR at hu; omega)
    have cl2 : P_F_run Θ N h f = if J L.length ≤ J j then (gO Θ h19 0 f (bc (P_F_keepChange Θ N h19 f) (fun v22 h21 => (some (.inl (J L.length), h21))))) else (bo (rA Θ h19 0 f 0) (fun v23 => (bo (rA Θ h19 0 f 1) (fun v24 => (gO Θ h19 1 v23 (bc (P_D_copyFrom Θ N h19 v23 v24) (fun v26 h25 => (bo (wF Θ h25 0 f 10 (.int (J j))) (fun h27 => (xp 12 (h27 ++ [oB 12 []]))))))))))) := by
      rw [cls, kx'.r6, bo_some, ct_O y4, d1, bc_some]
    have xx : Nx Θ h h19 (fun u => KR f u ∨ u = f + 151 ∨ u = f + 152 ∨ u = f + 154) L.length (6 * L.length) := by
      have x1 := (xT.trans (wK a3)).trans (b3.wid (Q := fun u => KR f u ∨ u = f + 151 ∨ u = f + 152 ∨ u = f + 154) (fun u _ p => by
        have : u = f + 151 ∨ u = f + 154 := p
        omega) (Nat.le_refl 0) (Nat.le_refl 0))
      have x2 := (x1.trans (y5.wid (Q := fun u => KR f u ∨ u = f + 151 ∨ u = f + 152 ∨ u = f + 154) (fun u _ p => by
        have : KR f u ∨ u = f + 151 ∨ u = f + 154 := p
        rcases this with z | z | z
        · exact Or.inl z
        · exact Or.inr (Or.inl z)
        · exact Or.inr (Or.inr (Or.inr z))) (Nat.le_refl _) (Nat.le_refl _))).trans (d3.wid (Q := fun u => KR f u ∨ u = f + 151 ∨ u = f + 152 ∨ u = f + 154) (fun u _ p => by omega) (Nat.le_refl 0) (Nat.le_refl 0))
      exact x2.up (by omega) (by omega)
    have rf : P_R_run Θ N (HR Θ (f + 157) S hr) (f + 157) = P_R_run_38 Θ N (fun h17 => (bo (rI Θ h17 9 (f + 157) 18) (fun v18 => (gO Θ h17 9 (f + 157) (bc (P_R_ends Θ N h17 (f + 157) v18) (fun v20 h19 => (some (v20, h19)))))))) (f + 157) N (HR Θ (f + 157) S3 hr) (J 0) := by
      unfold P_R_run
      rw [r_O hbr, g1, bc_some, r_I17 hbr, bo_some, g5, if_pos rfl, r_O hbr, s_begins hN hbr, bc_some, r_W13 hbr, bo_some]
      exact congrArg (fun s => P_R_run_38 Θ N _ (f + 157) N (HR Θ (f + 157) s hr) (J 0)) hS3
    have q2 : ∀ j : Int, 0 ≤ j → j < 140 → S' 2 j = S 1 j := fun j j0 j1 => by rw [y9 2 (by decide) (by decide)]; exact e32 j j0 j1
    have q6 : S' 6 = S 6 := (y9 6 (by decide) (by decide)).trans (e3 6 (by decide) (by decide) (by decide))
    have q0 : ∀ j : Int, j ≠ 8 → j ≠ 10 → j ≠ 13 → j ≠ 15 → j ≠ 16 → j ≠ 17 → j ≠ 18 → S' 0 j = S 0 j := fun j j0 j1 j2 j3 j4 j5 j6 => (y10 j j0 j2).trans (e30 j j1 j2 j3 j4 j5 j6)
    have q10 : S' 0 10 = 0 := (y10 10 (by decide) (by decide)).trans e310
    have q12 := q0 12 (by decide) (by decide) (by decide) (by decide) (by decide) (by decide) (by decide)
    have q06 := q0 6 (by decide) (by decide) (by decide) (by decide) (by decide) (by decide) (by decide)
    have q07 := q0 7 (by decide) (by decide) (by decide) (by decide) (by decide) (by decide) (by decide)
    have q18 : S' 0 18 = L.length := (y10 18 (by decide) (by decide)).trans e318
    have k5 := kxc.ok.2.1
    have yr := y2 hr hbr
    by_cases zz : S' 0 13 = 0
    · have ej := y7 zz
      obtain ⟨h21, m1, m2, m3⟩ := k_keep (N := N) kxc q2
      have m0 : ∀ j : Int, j ≠ 5 → remR S' 0 j = S' 0 j := fun j hj => remR_0 hj
      refine ⟨L.length, L.length, 0, h21, remR S', ?_, by omega, fun z => (z rfl).elim, fun _ => trivial, ⟨by omega, by omega⟩, ?_, by rw [m0 13 (by decide), zz], fun _ => rfl, ?_⟩
      · rw [cl2, ej, if_pos (by rw [J_le] <;> omega), kxc.gO, m1, bc_some, if_pos rfl]
      · rw [rf, yr, if_pos zz, r_I18 hbr, bo_some, r_O hbr, s_ends hN hbr k5.1 k5.2 y6.1 y6.2, bc_some]
        unfold endR
        rw [if_pos zz, q18]
      · exact zw_run ww w2 w3 ((xx.trans (wK m3)).up (by omega) (by omega) : Nx Θ h h21 _ L.length (6 * L.length)) (fun u hu => hu) (by omega) (ctk d2 m3) (m2.mono (by omega)) (by rw [m0 10 (by decide), q10]) (by rw [m0 12 (by decide), q12]) (by rw [remR_o (by decide) (by decide), q6]) (by rw [m0 8 (by decide)]; exact y11) (by rw [m0 6 (by decide), q06]; exact n4) (by rw [m0 7 (by decide), q07]; exact n5)
    · have ej := y8 zz
      have t2 : ∀ i : Nat, i ≠ 1 → cpy S' 2 0 1 0 140 i = S' i := fun i hi => cpy_r hi
      obtain ⟨aa, bb, h25, m1, m2, m3, m4, m5, m6⟩ := k_back (N := N) (S2 := cpy S' 2 0 1 0 140) hN kxc (fun jj => by
        rw [cpy_at]
        by_cases u : 0 ≤ jj ∧ jj < 140
        · rw [if_pos (by omega), if_pos u, q2 _ (by omega) (by omega)]
          exact congrArg (S 1) (by omega)
        · rw [if_neg (by omega), if_neg u]) (by
        have e : ur (cpy S' 2 0 1 0 140) (S' 1) = S' := by
          funext i
          unfold ur
          by_cases u : i = 1
          · rw [if_pos u, u]
          · rw [if_neg u, t2 i u]
        rw [e]
        exact ⟨rfl, rfl, rfl, rfl, rfl, rfl, rfl, rfl⟩)
      obtain ⟨h27, o1, o2, o3⟩ := kx_w10 (e := j) m5
      have u1 : ∀ i : Nat, i ≠ 0 → i ≠ 1 → cpy (up2 (up2 S' 0 7 j) 0 13 2) 2 0 1 0 140 i = S' i := fun i i0 i1 => by rw [cpy_r i1, up2_row i0, up2_row i0]
      have u0 : ∀ jj : Int, jj ≠ 7 → jj ≠ 13 → cpy (up2 (up2 S' 0 7 j) 0 13 2) 2 0 1 0 140 0 jj = S' 0 jj := fun jj j1 j2 => by rw [cpy_o (by decide), up2_nj j2, up2_nj j1]
      have u7 : cpy (up2 (up2 S' 0 7 j) 0 13 2) 2 0 1 0 140 0 7 = j := by rw [cpy_o (by decide), up2_nj (by decide), up2_eq]
      have u13 : cpy (up2 (up2 S' 0 7 j) 0 13 2) 2 0 1 0 140 0 13 = 2 := by rw [cpy_o (by decide), up2_eq]
      have u11 : cpy (up2 (up2 S' 0 7 j) 0 13 2) 2 0 1 0 140 1 = cpy S' 2 0 1 0 140 1 := by
        funext jj
        rw [cpy_at, cpy_at, up2_row (by decide), up2_row (by decide), up2_row (by decide), up2_row (by decide)]
      have sm2 : Sm (up2 (cpy S' 2 0 1 0 140) 0 7 j) (cpy (up2 (up2 S' 0 7 j) 0 13 2) 2 0 1 0 140) := by
        have v0 : ∀ jj : Int, jj ≠ 7 → up2 (cpy S' 2 0 1 0 140) 0 7 j 0 jj = S' 0 jj := fun jj j1 => by rw [up2_nj j1, t2 0 (by decide)]
        have v1 : ∀ i : Nat, i ≠ 0 → up2 (cpy S' 2 0 1 0 140) 0 7 j i = cpy S' 2 0 1 0 140 i := fun i i0 => up2_row i0
        exact ⟨by rw [u0 4 (by decide) (by decide), v0 4 (by decide)], by rw [u0 5 (by decide) (by decide), v0 5 (by decide)], by rw [u0 6 (by decide) (by decide), v0 6 (by decide)], by rw [u7, up2_eq], by rw [u0 8 (by decide) (by decide), v0 8 (by decide)], by rw [u11, v1 1 (by decide)], by rw [u1 3 (by decide) (by decide), v1 3 (by decide), t2 3 (by decide)], by rw [u1 4 (by decide) (by decide), v1 4 (by decide), t2 4 (by decide)]⟩
      have xe : Nx Θ h (h27 ++ [oB 12 []]) (fun u => KR f u ∨ u = f + 151 ∨ u = f + 152 ∨ u = f + 154) (L.length + 1) (6 * (L.length + 1)) := (((xx.trans (wK m6)).trans (wK o3)).trans Nx.ex).up (by omega) (by omega)
      have kxe : KX Θ f (k + 1) (h27 ++ [oB 12 []]) (cpy (up2 (up2 S' 0 7 j) 0 13 2) 2 0 1 0 140) (fun _ => False) := (((o2.sm sm2).mono (by omega)).nx (P := fun _ => False) Nx.ex (fun _ _ z => z))
      refine ⟨0, 0, 2, h27 ++ [oB 12 []], cpy (up2 (up2 S' 0 7 j) 0 13 2) 2 0 1 0 140, ?_, by omega, fun _ => by decide, fun _ => trivial, ⟨by omega, by omega⟩, ?_, u13, fun z => by omega, ?_⟩
      · rw [cl2, if_neg (by rw [J_le] <;> omega), m1, bo_some, m2, bo_some, m3, m4, bc_some, o1, bo_some]
        rfl
      · rw [rf, yr, if_neg zz]
      · exact zw_run ww w2 w3 xe (fun u hu => hu) (by omega) ((ctk (ctk d2 m6) o3).nx (P := fun _ => False) Nx.ex (fun _ _ z => z)) kxe (by rw [u0 10 (by decide) (by decide), q10]) (by rw [u0 12 (by decide) (by decide), q12]) (by rw [u1 6 (by decide) (by decide), q6]) (by rw [u0 8 (by decide) (by decide)]; exact y11) (by rw [u0 6 (by decide) (by decide), q06]; exact n4) (by rw [u7]; omega)
  · have re : 0 ≤ (ra (S 5) (S 0 10) 60 0).1 ∧ (ra (S 5) (S 0 10) 60 0).1 ≤ S 0 10 := rr.resolve_left ce
    generalize (ra (S 5) (S 0 10) 60 0).1 = e at f1 g5 ce re
    obtain ⟨h28, a1, a2, a3⟩ := kx_w9 (e := e) kx2
    have cc28 := ctk f2 a3
    obtain ⟨h30, d1, d2, d3⟩ := t_clr (N := N) cc28
    have u0 : ∀ j : Int, j ≠ 6 → j ≠ 13 → up2 (up2 S1 0 6 e) 0 13 1 0 j = S1 0 j := fun j j1 j2 => by rw [up2_nj j2, up2_nj j1]
    have u6 : up2 (up2 S1 0 6 e) 0 13 1 0 6 = e := by rw [up2_nj (by decide), up2_eq]
    have u1 : ∀ i : Nat, i ≠ 0 → i ≠ 8 → up2 (up2 S1 0 6 e) 0 13 1 i = S i := fun i i0 i8 => by rw [up2_row i0, up2_row i0, g2 i i0 i8]
    have s0 : ∀ j : Int, j ≠ 6 → j ≠ 10 → j ≠ 13 → j ≠ 15 → j ≠ 16 → j ≠ 17 → j ≠ 18 → up2 (up2 S1 0 6 e) 0 13 1 0 j = S 0 j := fun j j1 j2 j3 j4 j5 j6 j7 => by rw [u0 j j1 j3, g3 j j2 j4 j5 j6 j7]
    have sm2 : Sm (up2 S 0 6 e) (up2 (up2 S1 0 6 e) 0 13 1) := by
      have v0 : ∀ j : Int, j ≠ 6 → up2 S 0 6 e 0 j = S 0 j := fun j hj => up2_nj hj
      have v1 : ∀ i : Nat, i ≠ 0 → up2 S 0 6 e i = S i := fun i i0 => up2_row i0
      exact ⟨by rw [s0 4 (by decide) (by decide) (by decide) (by decide) (by decide) (by decide) (by decide), v0 4 (by decide)], by rw [s0 5 (by decide) (by decide) (by decide) (by decide) (by decide) (by decide) (by decide), v0 5 (by decide)], by rw [u6, up2_eq], by rw [s0 7 (by decide) (by decide) (by decide) (by decide) (by decide) (by decide) (by decide), v0 7 (by decide)], by rw [s0 8 (by decide) (by decide) (by decide) (by decide) (by decide) (by decide) (by decide), v0 8 (by decide)], by rw [u1 1 (by decide) (by decide), v1 1 (by decide)], by rw [u1 3 (by decide) (by decide), v1 3 (by decide)], by rw [u1 4 (by decide) (by decide), v1 4 (by decide)]⟩
    have kx30 : KX Θ f (k - S 0 10) h30 (up2 S 0 6 e) (fun _ => False) := a2.nx d3 (fun u hu p => by unfold KR at hu; omega)
    have kxe : KX Θ f (k + 1) (h30 ++ [oB 11 []]) (up2 (up2 S1 0 6 e) 0 13 1) (fun _ => False) := ((kx30.sm sm2).mono (by omega)).nx (P := fun _ => False) Nx.ex (fun _ _ z => z)
    have xe : Nx Θ h (h30 ++ [oB 11 []]) (fun u => KR f u ∨ u = f + 151 ∨ u = f + 152 ∨ u = f + 154) 1 (6 * 1) := (((xT.trans (wK a3)).trans (d3.wid (fun u _ p => by omega) (Nat.le_refl 0) (Nat.le_refl 0))).trans Nx.ex).up (by omega) (by omega)
    have en : ¬ J e = J (-1) := by rw [J_eq] <;> omega
    refine ⟨0, 0, 1, h30 ++ [oB 11 []], up2 (up2 S1 0 6 e) 0 13 1, ?_, by omega, fun _ => by decide, fun _ => trivial, ⟨by omega, by omega⟩, ?_, up2_eq, fun z => by omega, ?_⟩
    · unfold P_F_run
      rw [wk.r6, bo_some, ct_O w1, f1, bc_some, if_neg en, a1, bo_some, a2.r6, bo_some, ct_O cc28, d1, bc_some]
      rfl
    · unfold P_R_run
      rw [r_O hbr, g1, bc_some, r_I17 hbr, bo_some, g5, if_neg en, bo_some, r_W6 hbr, bo_some, r_W13 hbr, bo_some]
    · exact zw_run ww w2 w3 xe (fun u hu => hu) (by omega) (d2.nx (P := fun _ => False) Nx.ex (fun _ _ z => z)) kxe (by rw [u0 10 (by decide) (by decide), g4]) (s0 12 (by decide) (by decide) (by decide) (by decide) (by decide) (by decide) (by decide)) (u1 6 (by decide) (by decide)) (by rw [s0 8 (by decide) (by decide) (by decide) (by decide) (by decide) (by decide) (by decide)]; exact n3) (by rw [u6]; omega) (by rw [s0 7 (by decide) (by decide) (by decide) (by decide) (by decide) (by decide) (by decide)]; exact n5)
theorem o_run (mi : mI Θ) (hN : 2000 ≤ N) (hk : k ≤ 1000) (ww : ZW Θ f k h S S) : OQ Θ f k h S (tbl [11, 12]) (fun _ => True) (P_F_run Θ N h f) (fun hh => P_R_run Θ N hh (f + 157)) := OQ.pt ww.2.2.1.1 run_inj (fun _ hb => run_pt mi hN hk ww hb)
end RV
