/-! the law, whole -/
section LA
variable {Θ : mW} {o : Option (Int → Int)} {N f q v n : Nat} {c c2 k : Int} {h h0 h1 h2 : mH} {V W : Int → Int} {y z y2 z2 : Nat}
theorem w_lay (hN : 2000 ≤ N) (hL : mwL Θ ≤ 1000000) (c0 : 0 ≤ c) (c1 : c ≤ 1000) (wv : WV Θ f none c v h V) : ∃ h2 V2, P_W_lay Θ N h f = some ((), h2) ∧ WV Θ f none (c + 82) v h2 V2 ∧ FR Θ f v v h h2 82 492 := by
  have p0 := pkv_rng (Θ := Θ) (i := 0) (m := 24) (by omega)
  have p1 := pkv_rng (Θ := Θ) (i := 1) (m := 11) (by omega)
  have p2 := pkv_rng (Θ := Θ) (i := 2) (m := 3) (by omega)
  have p3 := pkv_rng (Θ := Θ) (i := 3) (m := 8) (by omega)
  have p4 := pkv_rng (Θ := Θ) (i := 4) (m := 3) (by omega)
  have p5 := pkv_rng (Θ := Θ) (i := 5) (m := 8) (by omega)
  obtain ⟨S, -, -, wd⟩ := wv
  obtain ⟨x1, h1, V1, a1, b1, d1⟩ := de_wv (de_5 (N := N) (a1 := 0) (z2 := J 0) (z3 := J 0) (Or.inl rfl) wd hN c0 (by omega))
  obtain ⟨S1, -, -, wd1⟩ := b1
  obtain ⟨x2, h2, V2, a2, b2, d2⟩ := de_wv (de_6 (N := N) (a1 := -30) (z2 := J 0) (z3 := J 0) (int_r) wd1 hN (by omega) (by omega))
  obtain ⟨S2, -, -, wd2⟩ := b2
  obtain ⟨x3, h3, V3, a3, b3, d3⟩ := de_wv (de_7 (N := N) (a1 := 4) (z2 := J 0) (z3 := J 0) (int_r) wd2 hN (by omega) (by omega))
  obtain ⟨x4, h4, V4, a4, b4, d4⟩ := blks_L (N := N) hN hL (K := fun h13 u14 => (bc (P_W_pick Θ N h13 (J 1) (J 11)) (fun v16 h15 => (bc (P_W_deed Θ N h15 f (J 6) ((J 20) + v16) (J 0) (J 0)) (fun v18 h17 => (bc (P_W_pick Θ N h17 (J 2) (J 3)) (fun v20 h19 => (bc (P_W_deed Θ N h19 f (J 7) ((J 5) + v20) (J 0) (J 0)) (fun v22 h21 => (bc (P_W_deed Θ N h21 f (J 6) (J 0) (J 0) (J 0)) (fun v24 h23 => (P_W_lay_120 Θ N (fun h31 u32 => (P_W_lay_162 Θ N (fun h56 u57 => (bc (P_W_pick Θ N h56 (J 4) (J 3)) (fun v59 h58 => (if v59 = 0 then (some ((), h58)) else (bc (P_W_deed Θ N h58 f (J 5) (J 0) (J 0) (J 0)) (fun v61 h60 => (bc (P_W_deed Θ N h60 f (J 6) (J (-20)) (J 0) (J 0)) (fun v63 h62 => (bc (P_W_pick Θ N h62 (J 5) (J 8)) (fun v65 h64 => (bc (P_W_deed Θ N h64 f (J 7) ((J 1) + v65) (J 0) (J 0)) (fun v67 h66 => (some ((), h66)))))))))))))) f N h31 u32 (J 0))) f N h23 (u14 + ((v18 + v22) + v24)) (J 0))))))))))))) (pkv Θ 0 24).toNat 0 N (c + 1 + 1 + 1) h3 V3 ((x1 + x2) + x3) (by omega) (by omega) (by omega) (by omega) b3
  obtain ⟨S4, -, -, wd4⟩ := b4
  obtain ⟨x5, h5, V5, a5, b5, d5⟩ := de_wv (de_6 (N := N) (a1 := 20 + pkv Θ 1 11) (z2 := J 0) (z3 := J 0) (int_r) wd4 hN (by omega) (by omega))
  obtain ⟨S5, -, -, wd5⟩ := b5
  obtain ⟨x6, h6, V6, a6, b6, d6⟩ := de_wv (de_7 (N := N) (a1 := 5 + pkv Θ 2 3) (z2 := J 0) (z3 := J 0) (int_r) wd5 hN (by omega) (by omega))
  obtain ⟨S6, -, -, wd6⟩ := b6
  obtain ⟨x7, h7, V7, a7, b7, d7⟩ := de_wv (de_6 (N := N) (a1 := 0) (z2 := J 0) (z3 := J 0) (int_r) wd6 hN (by omega) (by omega))
  obtain ⟨x8, h8, V8, a8, b8, d8⟩ := gate_L (N := N) hN (K := fun h31 u32 => (P_W_lay_162 Θ N (fun h56 u57 => (bc (P_W_pick Θ N h56 (J 4) (J 3)) (fun v59 h58 => (if v59 = 0 then (some ((), h58)) else (bc (P_W_deed Θ N h58 f (J 5) (J 0) (J 0) (J 0)) (fun v61 h60 => (bc (P_W_deed Θ N h60 f (J 6) (J (-20)) (J 0) (J 0)) (fun v63 h62 => (bc (P_W_pick Θ N h62 (J 5) (J 8)) (fun v65 h64 => (bc (P_W_deed Θ N h64 f (J 7) ((J 1) + v65) (J 0) (J 0)) (fun v67 h66 => (some ((), h66)))))))))))))) f N h31 u32 (J 0))) 12 0 N _ h7 V7 (x4 + ((x5 + x6) + x7)) (by omega) (by omega) (by omega) (by omega) b7
  obtain ⟨x9, h9, V9, a9, b9, d9⟩ := come_L (N := N) hN hL (K := fun h56 u57 => (bc (P_W_pick Θ N h56 (J 4) (J 3)) (fun v59 h58 => (if v59 = 0 then (some ((), h58)) else (bc (P_W_deed Θ N h58 f (J 5) (J 0) (J 0) (J 0)) (fun v61 h60 => (bc (P_W_deed Θ N h60 f (J 6) (J (-20)) (J 0) (J 0)) (fun v63 h62 => (bc (P_W_pick Θ N h62 (J 5) (J 8)) (fun v65 h64 => (bc (P_W_deed Θ N h64 f (J 7) ((J 1) + v65) (J 0) (J 0)) (fun v67 h66 => (some ((), h66)))))))))))))) (1 + pkv Θ 3 8).toNat 0 N _ h8 V8 x8 (by omega) (by omega) (by omega) (by omega) b8
  have run : ∀ r : Option (Unit × mH), bc (P_W_pick Θ N h9 (J 4) (J 3)) (fun v59 h58 => (if v59 = 0 then (some ((), h58)) else (bc (P_W_deed Θ N h58 f (J 5) (J 0) (J 0) (J 0)) (fun v61 h60 => (bc (P_W_deed Θ N h60 f (J 6) (J (-20)) (J 0) (J 0)) (fun v63 h62 => (bc (P_W_pick Θ N h62 (J 5) (J 8)) (fun v65 h64 => (bc (P_W_deed Θ N h64 f (J 7) ((J 1) + v65) (J 0) (J 0)) (fun v67 h66 => (some ((), h66)))))))))))) = r → P_W_lay Θ N h f = r := fun r hr => by
    unfold P_W_lay
    rw [a1, bc_some, a2, bc_some, a3, bc_some]
    refine Eq.trans a4 ?_
    rw [w_pick hL (by omega) (by omega) (by omega) (by omega), bc_some, J_add, a5, bc_some, w_pick hL (by omega) (by omega) (by omega) (by omega), bc_some, J_add, a6, bc_some, a7, bc_some]
    refine Eq.trans a8 ?_
    refine Eq.trans a9 ?_
    exact hr
  have fr := (((((((d1.trans d2).trans d3).trans d4).trans d5).trans d6).trans d7).trans d8).trans d9
  rw [w_pick hL (by omega) (by omega) (by omega) (by omega), bc_some] at run
  by_cases z : pkv Θ 4 3 = 0
  · rw [if_pos (by rw [z]; rfl)] at run
    exact ⟨h9, V9, run _ rfl, b9.mono (by omega), fr.up (by omega) (by omega)⟩
  · rw [if_neg (by rw [J_eq0] <;> omega)] at run
    obtain ⟨S9, -, -, wd9⟩ := b9
    obtain ⟨y1, g1, U1, e1, f1, i1⟩ := de_wv (de_5 (N := N) (a1 := 0) (z2 := J 0) (z3 := J 0) (Or.inl rfl) wd9 hN (by omega) (by omega))
    obtain ⟨T1, -, -, wt1⟩ := f1
    obtain ⟨y2, g2, U2, e2, f2, i2⟩ := de_wv (de_6 (N := N) (a1 := -20) (z2 := J 0) (z3 := J 0) (int_r) wt1 hN (by omega) (by omega))
    obtain ⟨T2, -, -, wt2⟩ := f2
    obtain ⟨y3, g3, U3, e3, f3, i3⟩ := de_wv (de_7 (N := N) (a1 := 1 + pkv Θ 5 8) (z2 := J 0) (z3 := J 0) (int_r) wt2 hN (by omega) (by omega))
    refine ⟨g3, U3, run _ ?_, f3.mono (by omega), (((fr.trans i1).trans i2).trans i3).up (by omega) (by omega)⟩
    rw [e1, bc_some, e2, bc_some, w_pick hL (by omega) (by omega) (by omega) (by omega), bc_some, J_add, e3, bc_some]
theorem rounds_L (hN : 100000 ≤ N) (hL : mwL Θ ≤ 1000000) (mi : mI9 Θ) {K : mH → Option ((Int32 ⊕ Nat) × mH)} : ∀ (r i w v : Nat) (c : Int) (h : mH) (V : Int → Int), i + r = 7 → r < w → 0 ≤ c → c + r ≤ 140 → WV Θ f none c v h V → ∃ v2 h2 V2, P_W_law_15 Θ N K f w h (J i) = K h2 ∧ WV Θ f none (c + r) v2 h2 V2 ∧ FR Θ f v v2 h h2 (5300 * r) (122000 * r) := by
  have hN2 : 2000 ≤ N := by omega
  intro r
  induction r with
  | zero =>
    intro i w v c h V hi hw c0 c1 wv
    obtain ⟨w, rfl⟩ : ∃ n', w = n' + 1 := ⟨w - 1, by omega⟩
    rw [E_W_law_15, B_W_law_15, if_pos (by rw [J_le] <;> omega)]
    exact ⟨v, h, V, rfl, wv.mono (by omega), FR.refl⟩
  | succ r ih =>
    intro i w v c h V hi hw c0 c1 wv
    obtain ⟨w, rfl⟩ : ∃ n', w = n' + 1 := ⟨w - 1, by omega⟩
    have e1 : ((i + 1 : Nat) : Int) = (i : Int) + 1 := by omega
    obtain ⟨x1, h1, V1, a1, b1, d1⟩ := w_any (N := N) hN2 hL c0 (by omega) wv (a := 200 + 6 * i) (by omega) (by omega)
    obtain ⟨v2, h2, a2, b2, d2⟩ := w_positions (N := N) hN2 mi (by omega) (by omega) b1
    obtain ⟨h3, a3, b3, d3⟩ := w_fits (N := N) hN2 (by omega) (by omega) b2
    obtain ⟨v4, h4, a4, b4, d4⟩ := w_ships (N := N) hN mi (by omega) (by omega) b3
    have p5 := pkv_rng (Θ := Θ) (i := 300 + i) (m := 10000) (by omega)
    obtain ⟨h5, a5, b5, d5⟩ := w_sea (N := N) hN (by omega) (by omega) b4 (p := pkv Θ (300 + i) 10000) (by omega) (by omega)
    have p6 := pkv_rng (Θ := Θ) (i := 320 + i) (m := 8) (by omega)
    obtain ⟨s, a6, s6⟩ := w_ship (N := N) b5 (a := pkv Θ (320 + i) 8) (by omega) (by omega)
    obtain ⟨h7, a7, b7, d7⟩ := w_hours (N := N) hN2 (by omega) (by omega) b5 s6
    obtain ⟨v8, h8, V8, a8, b8, d8⟩ := ih (i + 1) w v4 (c + 1) h7 V1 (by omega) (by omega) (by omega) (by omega) b7
    refine ⟨v8, h8, V8, ?_, b8.mono (by omega), ((((((d1.trans d2).trans d3).trans d4).trans (FR.of (f := f) (v := v4) d5 (fun _ q => q.elim))).trans d7).trans d8).up (by omega) (by omega)⟩
    rw [E_W_law_15, B_W_law_15, if_neg (by rw [J_le] <;> omega), J_mul, J_add, a1, bx_inl, a2, bx_inl, if_neg (show ¬ J 1 = (0 : Int32) by decide), a3, bx_inl, if_neg (show ¬ J 1 = (0 : Int32) by decide), a4, bx_inl, if_neg (show ¬ J 1 = (0 : Int32) by decide), J_add, w_pick hL (by omega) (by omega) (by omega) (by omega), bc_some, a5, bx_inl, if_neg (show ¬ J 1 = (0 : Int32) by decide), J_add, w_pick hL (by omega) (by omega) (by omega) (by omega), bc_some, a6, bx_inl, a7, bx_inl, if_neg (show ¬ J 1 = (0 : Int32) by decide), J_add, ← e1]
    exact a8
theorem law_all (mi : mI9 Θ) (hN : 100000 ≤ N) (hL : mwL Θ ≤ 1000000) : ∃ h' : mH, P_W_law Θ N [] = some (.inl (J 1), h') ∧ h'.length ≤ 37400 ∧ msz h' ≤ 857000 := by
  have st := i_F (Θ := Θ) (N := N) (by omega)
  obtain ⟨h1, V1, a1, b1, d1⟩ := w_lay (N := N) (by omega) hL (by omega) (by omega) (wv_0 (Θ := Θ))
  obtain ⟨v2, h2, V2, a2, b2, d2⟩ := rounds_L (N := N) hN hL mi (K := fun h25 => some ((.inl (J 1) : Int32 ⊕ Nat), h25)) 7 0 N _ _ h1 V1 (by omega) (by omega) (by omega) (by omega) b1
  have z1 := d1.1
  have z2 := d2.1
  have l0 : (H00 Θ (mwB Θ)).length = 157 := h_len
  have m0 := m_H (Θ := Θ)
  refine ⟨h2, ?_, ?_, ?_⟩
  · unfold P_W_law
    rw [show ∀ (F : Nat → mH → Option ((Int32 ⊕ Nat) × mH)) (e : mE), al Θ [] e F = F (mwB Θ) [e] from fun _ _ => rfl]
    rw [st, bc_some]
    refine (congrArg (fun q => bc q _) a1).trans ?_
    exact a2
  · have := z1.1
    have := z2.1
    omega
  · have := z1.2.1
    have := z2.2.1
    omega
end LA
