/-! ships, as the law asks -/
/-- the text of the damage -/
noncomputable def exm (Θ : mW) (N f : Nat) (h37 : mH) (v7 v38 : Int32) (j39 : mH → Nat → Option ((Int32 ⊕ Nat) × mH)) : Option ((Int32 ⊕ Nat) × mH) := (if v38 = 0 then (j39 h37 (mwad Θ 90)) else (al Θ h37 (oB 8 [.null, .int 0, .int 0, .int 0]) (fun q72 h73 => (bc (P_SB_init Θ N h73 q72) (fun v75 h74 => (gO Θ h74 8 q72 (bc (P_SB_append_o Θ N h74 q72 (mwad Θ 98)) (fun v77 h76 => (gO Θ h76 0 f (bx (P_F_damageOf Θ N h76 f v7) (fun v79 h78 => (gO Θ h78 8 v77 (bc (P_SB_append_I Θ N h78 v77 v79) (fun v81 h80 => (gO Θ h80 8 v81 (bc (P_SB_toString Θ N h80 v81) (fun v83 h82 => (j39 h82 v83)))))))) (fun n9 h9 => xp n9 h9)))))))))))
/-- the text of a ship -/
noncomputable def exs (Θ : mW) (N f : Nat) (h12 : mH) (v7 v9 : Int32) (F : Nat → mH → Option ((Int32 ⊕ Nat) × mH)) : Option ((Int32 ⊕ Nat) × mH) := (jn (fun (h15 : mH) (s16 : Nat) => (al Θ h15 (oB 8 [.null, .int 0, .int 0, .int 0]) (fun q17 h18 => (bc (P_SB_init Θ N h18 q17) (fun v20 h19 => (gO Θ h19 8 q17 (bc (P_SB_append_o Θ N h19 q17 (mwad Θ 95)) (fun v22 h21 => (gO Θ h21 8 v22 (bc (P_SB_append_I Θ N h21 v22 v7) (fun v24 h23 => (gO Θ h23 8 v24 (bc (P_SB_append_o Θ N h23 v24 (mwad Θ 96)) (fun v26 h25 => (gO Θ h25 0 f (bx (P_F_billOf Θ N h25 f v7) (fun v28 h27 => (gO Θ h27 8 v26 (bc (P_SB_append_I Θ N h27 v26 v28) (fun v30 h29 => (gO Θ h29 8 v30 (bc (P_SB_append_o Θ N h29 v30 (mwad Θ 97)) (fun v32 h31 => (gO Θ h31 0 f (bx (P_F_dirtOf Θ N h31 f v7) (fun v34 h33 => (gO Θ h33 8 v32 (bc (P_SB_append_I Θ N h33 v32 v34) (fun v36 h35 => (gO Θ h35 0 f (bx (P_F_damageOf Θ N h35 f v7) (fun v38 h37 => (jn (fun (h40 : mH) (s41 : Nat) => (gO Θ h40 8 v36 (bc (P_SB_append_o Θ N h40 v36 s41) (fun v43 h42 => (gO Θ h42 8 v43 (bc (P_SB_append_o Θ N h42 v43 s16) (fun v45 h44 => (gO Θ h44 8 v45 (bc (P_SB_toString Θ N h44 v45) (fun v47 h46 => F v47 h46)))))))))) (fun j39 => exm Θ N f h37 v7 v38 j39))) (fun n9 h9 => xp n9 h9))))))) (fun n9 h9 => xp n9 h9)))))))))) (fun n9 h9 => xp n9 h9))))))))))))))))) (fun j14 => (if v9 = (J (-2005)) then (j14 h12 (mwad Θ 90)) else (gO Θ h12 0 f (bx (P_F_isAfloat Θ N h12 f v7) (fun v85 h84 => (if v85 = 0 then (j14 h84 (mwad Θ 94)) else (j14 h84 (mwad Θ 93)))) (fun n9 h9 => xp n9 h9))))))
/-- what is asked of a ship -/
noncomputable def exr (Θ : mW) (N f : Nat) (h46 : mH) (v4 v5 v7 v9 : Int32) (v47 : Nat) (F : mH → Int32 → Option ((Int32 ⊕ Nat) × mH)) : Option ((Int32 ⊕ Nat) × mH) := (jn (fun (h49 : mH) (s50 : Int32) => (F h49 s50)) (fun j48 => (jn (fun (h52 : mH) => (j48 h52 (J 0))) (fun j51 => (if v4 = 0 then (j51 h46) else (gO Θ h46 0 f (bx (P_F_isInDock Θ N h46 f v7) (fun v54 h53 => (jn (fun (h56 : mH) (s57 : Int32) => (if v54 = s57 then (jn (fun (h59 : mH) => (jn (fun (h61 : mH) => (gO Θ h61 0 f (bx (P_F_describeBill Θ N h61 f v7) (fun v63 h62 => (bx (P_W_isLine Θ N h62 f v63 v47) (fun v65 h64 => (if v65 = 0 then (j51 h64) else (j48 h64 (J 1)))) (fun n9 h9 => xp n9 h9))) (fun n9 h9 => xp n9 h9)))) (fun j60 => (if v5 = 0 then (j60 h59) else (gO Θ h59 0 f (bx (P_F_shipAt Θ N h59 f (v5 - (J 1))) (fun v67 h66 => (if v7 ≤ v67 then (j51 h66) else (j60 h66))) (fun n9 h9 => xp n9 h9))))))) (fun j58 => (if 0 ≤ v9 then (gO Θ h56 0 f (bx (P_F_shipAtPosition Θ N h56 f v9) (fun v69 h68 => (if v69 = v7 then (j58 h68) else (j51 h68))) (fun n9 h9 => xp n9 h9))) else (if v9 = (J (-2005)) then (gO Θ h56 0 f (bx (P_F_isAfloat Θ N h56 f v7) (fun v71 h70 => (if v71 = 0 then (j51 h70) else (j58 h70))) (fun n9 h9 => xp n9 h9))) else (j51 h56))))) else (j51 h56))) (fun j55 => (if v9 < 0 then (j55 h53 (J 0)) else (j55 h53 (J 1)))))) (fun n9 h9 => xp n9 h9))))))))
def plc (V : Int → Int) (k : Int) : Int := if fd V k 4 = -1 then -2005 else fd V k 4
section SH
variable {Θ : mW} {o : Option (Int → Int)} {N f q v a b n : Nat} {c c2 k : Int} {l l2 : List Int} {h h0 h1 h2 : mH} {S S2 : Nat → Int → Int} {V G : Int → Int} {P : Nat → Prop} {y z y2 z2 : Nat}
/-- what is asked of the k-th ship -/
theorem q_f (hN : 2000 ≤ N) (c0 : 0 ≤ c) (c1 : c ≤ 2000) (wv : WV Θ f o c v h V) (k0 : 0 ≤ k) (k1 : k < V 4) : P_F_billOf Θ N h f (J (fd V k 0)) = some (.inl (J (fd V k 8)), h) ∧ P_F_dirtOf Θ N h f (J (fd V k 0)) = some (.inl (J (fd V k 3)), h) ∧ P_F_damageOf Θ N h f (J (fd V k 0)) = some (.inl (J (fd V k 6)), h) ∧ P_F_isInDock Θ N h f (J (fd V k 0)) = some (.inl (J (if fd V k 4 ≠ -1 then 1 else 0)), h) ∧ P_F_isAfloat Θ N h f (J (fd V k 0)) = some (.inl (J (if fd V k 4 = -1 ∨ fd V k 2 ≤ V 1 then 1 else 0)), h) := by
  have I := wv.i
  have ir := id_rng I c0 c1 k0 k1
  have fo := fnd_of I k0 k1
  obtain ⟨S, rfl, so, wd⟩ := id wv
  rw [x_billOf (int_r) hN wd.k, x_dirtOf (int_r) hN wd.k, x_damageOf (int_r) hN wd.k, x_isInDock (int_r) hN wd.k, x_isAfloat (int_r) hN wd.k, fo]
  simp only [if_neg (show ¬ k = -1 by omega)]
  exact ⟨trivial, trivial, trivial, trivial, trivial⟩
theorem q_place (hN : 2000 ≤ N) (c0 : 0 ≤ c) (c1 : c ≤ 2000) (wv : WV Θ f o c v h V) (k0 : 0 ≤ k) (k1 : k < V 4) : ∃ h2, P_W_ask Θ N h f (J 1) (J (fd V k 0)) = some (J (plc V k), h2) ∧ WV Θ f o c v h2 V ∧ Nx Θ h h2 (fun _ => False) 1 6 := by
  have I := wv.i
  have ir := id_rng I c0 c1 k0 k1
  have fo := fnd_of I k0 k1
  have wx := wv.ex (n := 12)
  obtain ⟨S, rfl, so, wd⟩ := id wv
  rw [a_place wd hN (int_r), fo, if_neg (by omega)]
  unfold plc
  by_cases z : fd (S 1) k 4 = -1
  · rw [if_pos z, if_pos z]
    exact ⟨_, rfl, wx, Nx.ex⟩
  · rw [if_neg z, if_neg z]
    exact ⟨_, rfl, wv, Nx.refl.up (by omega) (by omega)⟩
theorem plc_rng (I : In c V) (k0 : 0 ≤ k) (k1 : k < V 4) : (fd V k 4 = -1 ∧ plc V k = -2005) ∨ (fd V k 4 ≠ -1 ∧ plc V k = fd V k 4 ∧ 0 ≤ fd V k 4 ∧ fd V k 4 < 60) := by
  have s := I.sh k k0 k1
  unfold shOK at s
  unfold plc
  by_cases z : fd V k 4 = -1
  · exact Or.inl ⟨z, if_pos z⟩
  · exact Or.inr ⟨z, if_neg z, by omega, by omega⟩
theorem sgn_go (hN : 2000 ≤ N) (c0 : 0 ≤ c) (c1 : c ≤ 2000) (wv : WV Θ f o c v h V) (k0 : 0 ≤ k) (k1 : k < V 4) : ∃ a b, (∀ F : mH → Nat → Option ((Int32 ⊕ Nat) × mH), jn F (fun j14 => (if J (plc V k) = (J (-2005)) then (j14 h (mwad Θ 90)) else (gO Θ h 0 f (bx (P_F_isAfloat Θ N h f (J (fd V k 0))) (fun v85 h84 => (if v85 = 0 then (j14 h84 (mwad Θ 94)) else (j14 h84 (mwad Θ 93)))) (fun n9 h9 => xp n9 h9))))) = F h a) ∧ TX Θ a b (sgnL V k) h := by
  have fl := (q_f hN c0 c1 wv k0 k1).2.2.2.2
  rcases plc_rng wv.i k0 k1 with ⟨z, e⟩ | ⟨z, e, e0, e1⟩
  · refine ⟨mwad Θ 90, mwad Θ 110, fun F => ?_, Or.inl ⟨0, by omega, rfl, rfl, by unfold sgnL; rw [if_pos z]; rfl⟩⟩
    rw [jn_eq, e, if_pos rfl]
  · by_cases z2 : fd V k 2 ≤ V 1
    · refine ⟨mwad Θ 93, mwad Θ 113, fun F => ?_, Or.inl ⟨3, by omega, rfl, rfl, by unfold sgnL; rw [if_neg z, if_pos z2]; rfl⟩⟩
      rw [if_pos (Or.inr z2)] at fl
      rw [jn_eq, e, if_neg (by rw [J_eq] <;> omega), wv.O, fl, bx_inl, if_neg (show ¬ J 1 = (0 : Int32) by decide)]
    · refine ⟨mwad Θ 94, mwad Θ 114, fun F => ?_, Or.inl ⟨4, by omega, rfl, rfl, by unfold sgnL; rw [if_neg z, if_neg z2]; rfl⟩⟩
      rw [if_neg (by omega)] at fl
      rw [jn_eq, e, if_neg (by rw [J_eq] <;> omega), wv.O, fl, bx_inl, if_pos (show J 0 = (0 : Int32) from rfl)]
/-- numbers of a ship -/
theorem shp_rng (I : In c V) (c0 : 0 ≤ c) (c1 : c ≤ 2000) (k0 : 0 ≤ k) (k1 : k < V 4) : (0 ≤ fd V k 8 ∧ fd V k 8 < 100000000) ∧ (0 ≤ fd V k 3 ∧ fd V k 3 ≤ 99) ∧ (0 ≤ fd V k 6 ∧ fd V k 6 < 100000000) := by
  have s := I.sh k k0 k1
  have b := bills_0 I
  have b2 := b.2.2 k k0 k1
  have h7 := I.h7
  unfold shOK at s
  omega
theorem dmg_go (hN : 2000 ≤ N) (mi : mI9 Θ) (c0 : 0 ≤ c) (c1 : c ≤ 2000) (wv : WV Θ f o c v h V) (k0 : 0 ≤ k) (k1 : k < V 4) : ∃ a b h2, (∀ j39, exm Θ N f h (J (fd V k 0)) (J (fd V k 6)) j39 = j39 h2 a) ∧ TX Θ a b (dmgL V k) h2 ∧ Nx Θ h h2 (fun _ => False) 6 366 := by
  have sr := shp_rng wv.i c0 c1 k0 k1
  unfold dmgL
  by_cases z : fd V k 6 = 0
  · rw [if_pos z]
    refine ⟨mwad Θ 90, mwad Θ 110, h, fun F => ?_, Or.inl ⟨0, by omega, rfl, rfl, rfl⟩, Nx.refl.up (by omega) (by omega)⟩
    unfold exm
    rw [z, if_pos (show J 0 = (0 : Int32) from rfl)]
  · rw [if_neg z]
    obtain ⟨g1, p1, p2⟩ := sb_new (Θ := Θ) (N := N) (h := h)
    obtain ⟨v2, g2, p3, p4⟩ := bl_T (N := N) (a := mwad Θ 98) (b := mwad Θ 118) (l2 := [33]) mi p2 (Or.inl ⟨8, by omega, rfl, rfl, rfl⟩) (by decide)
    rw [List.nil_append] at p4
    have w2 := wv.out p4.2.2 (fun _ x => x.elim)
    have fm := (q_f hN c0 c1 w2 k0 k1).2.2.1
    obtain ⟨v3, g3, p5, p6⟩ := bl_I (N := N) hN p4 (x := fd V k 6) (by omega) (by omega) (by decide)
    have nr := nd_rng (fd V k 6)
    obtain ⟨g4, p7, p8, p9⟩ := bl_end (N := N) p6 (by
      rw [List.length_append, dgl_len]
      show 1 + _ ≤ 62
      omega)
    refine ⟨_, _, g4, fun F => ?_, p8, p9.up (by omega) (by omega)⟩
    unfold exm
    rw [if_neg (by rw [J_eq0] <;> omega), al_eq, p1, bc_some, p2.O, p3, bc_some, w2.O, fm, bx_inl, p4.O, p5, bc_some, p6.O, p7, bc_some]
theorem txt_go (hN : 2000 ≤ N) (mi : mI9 Θ) (c0 : 0 ≤ c) (c1 : c ≤ 2000) (wv : WV Θ f o c v h V) (k0 : 0 ≤ k) (k1 : k < V 4) : ∃ a h2, (∀ F, exs Θ N f h (J (fd V k 0)) (J (plc V k)) F = F a h2) ∧ TX Θ a (a + 1) (billL V k) h2 ∧ mwB Θ + h.length ≤ a ∧ Nx Θ h h2 (fun _ => False) 18 1600 := by
  have sr := shp_rng wv.i c0 c1 k0 k1
  have ir := id_rng wv.i c0 c1 k0 k1
  have n0 := nd_rng (fd V k 0)
  have n8 := nd_rng (fd V k 8)
  have n3 := nd_rng (fd V k 3)
  have bl := billL_len (V := V) (w := k)
  unfold billL at bl
  simp only [List.length_append, dgl_len, List.length_singleton] at bl
  obtain ⟨as, bs, s1, s2⟩ := sgn_go (N := N) hN c0 c1 wv k0 k1
  obtain ⟨g1, p1, p2⟩ := sb_new (Θ := Θ) (N := N) (h := h)
  obtain ⟨v2, g2, p3, p4⟩ := bl_T (N := N) (a := mwad Θ 95) (b := mwad Θ 115) (l2 := [35]) mi p2 (Or.inl ⟨5, by omega, rfl, rfl, rfl⟩) (by decide)
  rw [List.nil_append] at p4
  obtain ⟨v3, g3, p5, p6⟩ := bl_I (N := N) hN p4 (x := fd V k 0) (by omega) (by omega) (by decide)
  obtain ⟨v4, g4, p7, p8⟩ := bl_T (N := N) (a := mwad Θ 96) (b := mwad Θ 116) (l2 := [58]) mi p6 (Or.inl ⟨6, by omega, rfl, rfl, rfl⟩) (by simp only [List.length_append, dgl_len, List.length_singleton]; omega)
  have w4 := wv.out p8.2.2 (fun _ x => x.elim)
  have fb := (q_f hN c0 c1 w4 k0 k1).1
  obtain ⟨v5, g5, p9, p10⟩ := bl_I (N := N) hN p8 (x := fd V k 8) (by omega) (by omega) (by simp only [List.length_append, dgl_len, List.length_singleton]; omega)
  obtain ⟨v6, g6, p11, p12⟩ := bl_T (N := N) (a := mwad Θ 97) (b := mwad Θ 117) (l2 := [47]) mi p10 (Or.inl ⟨7, by omega, rfl, rfl, rfl⟩) (by simp only [List.length_append, dgl_len, List.length_singleton]; omega)
  have w6 := wv.out p12.2.2 (fun _ x => x.elim)
  have fd6 := (q_f hN c0 c1 w6 k0 k1).2.1
  obtain ⟨v7, g7, p13, p14⟩ := bl_I (N := N) hN p12 (x := fd V k 3) (by omega) (by omega) (by simp only [List.length_append, dgl_len, List.length_singleton]; omega)
  have w7 := wv.out p14.2.2 (fun _ x => x.elim)
  have fm := (q_f hN c0 c1 w7 k0 k1).2.2.1
  obtain ⟨am, bm, g8, m1, m2, m3⟩ := dmg_go (N := N) hN mi c0 c1 w7 k0 k1
  have p15 := p14.nx m3
  obtain ⟨v9, g9, p16, p17⟩ := bl_T (N := N) mi p15 m2 (by simp only [List.length_append, dgl_len, List.length_singleton]; omega)
  have s9 := s2.nx p17.2.2 id id
  obtain ⟨v10, g10, p18, p19⟩ := bl_T (N := N) mi p17 s9 (by simp only [List.length_append, dgl_len, List.length_singleton]; omega)
  obtain ⟨g11, p20, p21, p22⟩ := bl_end (N := N) p19 (by simp only [List.length_append, dgl_len, List.length_singleton]; omega)
  refine ⟨_, g11, fun F => ?_, p21, by have := p19.2.2.1.1; omega, p22.up (by omega) (by omega)⟩
  unfold exs
  rw [s1]
  rw [al_eq, p1, bc_some, p2.O, p3, bc_some, p4.O, p5, bc_some, p6.O, p7, bc_some, w4.O, fb, bx_inl, p8.O, p9, bc_some, p10.O, p11, bc_some, w6.O, fd6, bx_inl, p12.O, p13, bc_some, w7.O, fm, bx_inl, jn_eq, m1]
  rw [p15.O, p16, bc_some, p17.O, p18, bc_some, p19.O, p20, bc_some]
/-- what is asked of a ship, and its line -/
theorem rest_go (hN : 2000 ≤ N) (mi : mI9 Θ) (c0 : 0 ≤ c) (c1 : c ≤ 2000) (wv : WV Θ f o c v h V) (k0 : 0 ≤ k) (k1 : k < V 4) (t : TX Θ a b (billL V k) h) (ta : ¬ KC f v a ∧ ¬ KC f v b) : ∃ v2 h2, (∀ F, exr Θ N f h (J 1) (J k) (J (fd V k 0)) (J (plc V k)) a F = F h2 (J 1)) ∧ WV Θ f o c v2 h2 V ∧ FR Θ f v v2 h h2 20 2800 := by
  have I := wv.i
  have h4 := I.h4
  have ir := id_rng I c0 c1 k0 k1
  obtain ⟨-, -, -, fi, ff⟩ := q_f hN c0 c1 wv k0 k1
  obtain ⟨v2, h2, u1, u2, u3, u4⟩ := x_bill hN c0 c1 wv k0 k1
  have t2 := t.nx u4.1 ta.1 ta.2
  have il : P_W_isLine Θ N h2 f (J (billL V k).length) a = some (.inl (J 1), h2) := by
    have bl := billL_len (V := V) (w := k)
    obtain ⟨S, rfl, so, wd⟩ := id u2
    exact w_isLine (N := N) hN mi wd.k u3 t2 (by omega)
  refine ⟨v2, h2, fun F => ?_, u2, u4⟩
  have last : ∀ j51 : mH → Option ((Int32 ⊕ Nat) × mH), ∀ j48 : mH → Int32 → Option ((Int32 ⊕ Nat) × mH), jn (fun (h61 : mH) => (gO Θ h61 0 f (bx (P_F_describeBill Θ N h61 f (J (fd V k 0))) (fun v63 h62 => (bx (P_W_isLine Θ N h62 f v63 a) (fun v65 h64 => (if v65 = 0 then (j51 h64) else (j48 h64 (J 1)))) (fun n9 h9 => xp n9 h9))) (fun n9 h9 => xp n9 h9)))) (fun j60 => (if J k = 0 then (j60 h) else (gO Θ h 0 f (bx (P_F_shipAt Θ N h f (J k - (J 1))) (fun v67 h66 => (if J (fd V k 0) ≤ v67 then (j51 h66) else (j60 h66))) (fun n9 h9 => xp n9 h9))))) = j48 h2 (J 1) := fun j51 j48 => by
    rw [jn_eq]
    by_cases z : k = 0
    · rw [if_pos (show J k = (0 : Int32) by rw [z]; rfl)]
      dsimp only
      rw [wv.O, u1, bx_inl, il, bx_inl, if_neg (show ¬ J 1 = (0 : Int32) by decide)]
    · have pr := I.pr (k - 1) k (by omega) (by omega) k1
      unfold pr2 at pr
      have ir2 := id_rng I c0 c1 (k := k - 1) (by omega) (by omega)
      rw [if_neg (by rw [J_eq0] <;> omega), J_sub, wv.O, g_at wv (by omega) (by omega), bx_inl, if_neg (by rw [J_le] <;> omega)]
      dsimp only
      rw [wv.O, u1, bx_inl, il, bx_inl, if_neg (show ¬ J 1 = (0 : Int32) by decide)]
  unfold exr
  rw [jn_eq, jn_eq, if_neg (show ¬ J 1 = (0 : Int32) by decide), wv.O, fi, bx_inl, jn_eq]
  rcases plc_rng I k0 k1 with ⟨z, e⟩ | ⟨z, e, e0, e1⟩
  · rw [e, if_pos (show J (-2005) < 0 by decide), if_neg (by omega)]
    dsimp only
    rw [if_pos rfl, jn_eq, if_neg (show ¬ 0 ≤ J (-2005) by decide), if_pos rfl, wv.O, ff, if_pos (Or.inl z), bx_inl, if_neg (show ¬ J 1 = (0 : Int32) by decide)]
    exact last _ _
  · have hp : P_F_shipAtPosition Θ N h f (J (fd V k 4)) = some (.inl (J (fd V k 0)), h) := by
      have s := I.sh k k0 k1
      unfold shOK at s
      have ao : at' V (fd V k 4) = k := at_of I k0 k1 ⟨z, by omega, by omega⟩
      obtain ⟨S, rfl, so, wd⟩ := id wv
      rw [x_shipAtPos (int_r) hN wd.k, if_pos (by omega), ao, if_neg (by omega)]
    rw [e, if_neg (by rw [J_lt0] <;> omega), if_pos z]
    dsimp only
    rw [if_pos rfl, jn_eq, if_pos (by rw [J_0le] <;> omega), wv.O, hp, bx_inl, if_pos rfl]
    exact last _ _
theorem shp_L (hN : 2000 ≤ N) (mi : mI9 Θ) (c0 : 0 ≤ c) (c1 : c ≤ 2000) (hn : (n : Int) = V 4) {K : mH → Int32 → Int32 → Int32 → Option ((Int32 ⊕ Nat) × mH)} : ∀ (r k w v : Nat) (h : mH), k + r = n → r < w → WV Θ f o c v h V → ∃ v2 h2, P_W_areShipsRight_100 Θ N K f (J n) w h (J (smm V 8 k)) (J (smm V 3 k)) (J 1) (J k) = K h2 (J (smm V 8 n)) (J (smm V 3 n)) (J 1) ∧ WV Θ f o c v2 h2 V ∧ FR Θ f v v2 h h2 (40 * r) (4500 * r) := by
  intro r
  induction r with
  | zero =>
    intro k w v h hk hw wv
    have h4 := wv.i.h4
    obtain ⟨w, rfl⟩ : ∃ n', w = n' + 1 := ⟨w - 1, by omega⟩
    have : k = n := by omega
    subst this
    rw [E_W_areShipsRight_100, B_W_areShipsRight_100, if_pos (by rw [J_le] <;> omega)]
    exact ⟨v, h, rfl, wv, FR.refl⟩
  | succ r ih =>
    intro k w v h hk hw wv
    have I := wv.i
    have h4 := I.h4
    obtain ⟨w, rfl⟩ : ∃ n', w = n' + 1 := ⟨w - 1, by omega⟩
    have e1 : ((k + 1 : Nat) : Int) = (k : Int) + 1 := by omega
    obtain ⟨h1, p1, p2, p3⟩ := q_place (N := N) hN c0 c1 wv (k := k) (by omega) (by omega)
    obtain ⟨qb, qd, -, -, -⟩ := q_f (N := N) hN c0 c1 p2 (k := k) (by omega) (by omega)
    obtain ⟨a, h2, t1, t2, t3, t4⟩ := txt_go (N := N) hN mi c0 c1 p2 (k := k) (by omega) (by omega)
    have w2 := p2.out t4 (fun _ x => x.elim)
    have hk1 := p2.hi
    obtain ⟨v3, h3, s1, s2, s3⟩ := rest_go (N := N) hN mi c0 c1 w2 (k := k) (by omega) (by omega) t2 ⟨fun x => by have := hk1 _ x; omega, fun x => by have := hk1 _ x; omega⟩
    obtain ⟨v4, h4', u1, u2, u3⟩ := ih (k + 1) w v3 h3 (by omega) (by omega) s2
    refine ⟨v4, h4', ?_, u2, (((FR.of (f := f) (v := v) (p3.trans t4) (fun _ q => q.elim)).trans s3).trans u3).up (by omega) (by omega)⟩
    rw [E_W_areShipsRight_100, B_W_areShipsRight_100, if_neg (by rw [J_le] <;> omega), wv.O, g_at wv (by omega) (by omega), bx_inl, p1, bc_some, p2.O, qb, bx_inl, p2.O, qd, bx_inl]
    refine (t1 (fun v47 h46 => exr Θ N f h46 (J 1) (J k) (J (fd V k 0)) (J (plc V k)) v47 (fun h49 s50 => P_W_areShipsRight_100 Θ N K f (J n) w h49 (J (smm V 8 k) + J (fd V k 8)) (J (smm V 3 k) + J (fd V k 3)) s50 (J k + J 1)))).trans ?_
    rw [s1, J_add, J_add, J_add, ← e1]
    exact u1
theorem rnk_L (hN : 2000 ≤ N) (c0 : 0 ≤ c) (c1 : c ≤ 2000) (hn : (n : Int) = V 4) (wv : WV Θ f o c v h V) {f2 f3 : Int32} {K : mH → Int32 → Option ((Int32 ⊕ Nat) × mH)} : ∀ (r k w : Nat), n ≤ k + 1 + r → k ≤ 100 → r < w → P_W_areShipsRight_377 Θ N K f (J n) f2 f3 w h (J 1) (J k) = K h (J 1) := by
  have I := wv.i
  have h4 := I.h4
  intro r
  induction r with
  | zero =>
    intro k w hk hk2 hw
    obtain ⟨w, rfl⟩ : ∃ n', w = n' + 1 := ⟨w - 1, by omega⟩
    rw [E_W_areShipsRight_377, B_W_areShipsRight_377, J_add, if_pos (by rw [J_le] <;> omega)]
  | succ r ih =>
    intro k w hk hk2 hw
    obtain ⟨w, rfl⟩ : ∃ n', w = n' + 1 := ⟨w - 1, by omega⟩
    have e1 : ((k + 1 : Nat) : Int) = (k : Int) + 1 := by omega
    rw [E_W_areShipsRight_377, B_W_areShipsRight_377, J_add]
    by_cases z : n ≤ k + 1
    · rw [if_pos (by rw [J_le] <;> omega)]
    · rw [if_neg (by rw [J_le] <;> omega)]
      obtain ⟨a0, a1, a2⟩ := rkx_on I (x := (k : Int)) (by omega) (by omega)
      obtain ⟨b0, b1, b2⟩ := rkx_on I (x := (k : Int) + 1) (by omega) (by omega)
      have em : (mny V : Int) = V 4 := by unfold mny; omega
      have bf := bef_of (V := V) a0 (by omega) b0 (by omega) (by omega)
      have ra : P_F_shipAtRank Θ N h f (J k) = some (.inl (J (fd V (rkx V k (mny V) 0) 0)), h) := by
        obtain ⟨S, rfl, so, wd⟩ := id wv
        rw [x_shipAtRank (int_r) hN wd.k, if_neg (by omega)]
      have rb : P_F_shipAtRank Θ N h f (J ((k : Int) + 1)) = some (.inl (J (fd V (rkx V ((k : Int) + 1) (mny V) 0) 0)), h) := by
        obtain ⟨S, rfl, so, wd⟩ := id wv
        rw [x_shipAtRank (int_r) hN wd.k, if_neg (by omega)]
      generalize rkx V k (mny V) 0 = A at *
      generalize rkx V ((k : Int) + 1) (mny V) 0 = B at *
      obtain ⟨qa1, qa2, -, -, -⟩ := q_f (N := N) hN c0 c1 wv a0 a1
      obtain ⟨qb1, qb2, -, -, -⟩ := q_f (N := N) hN c0 c1 wv b0 b1
      have sa := shp_rng I c0 c1 a0 a1
      have sb := shp_rng I c0 c1 b0 b1
      have ia := id_rng I c0 c1 a0 a1
      have ib := id_rng I c0 c1 b0 b1
      rw [wv.O, ra, bx_inl, wv.O, rb, bx_inl, wv.O, qa1, bx_inl, wv.O, qb1, bx_inl, wv.O, qa2, bx_inl, wv.O, qb2, bx_inl, jn_eq, jn_eq, if_neg (show ¬ J 1 = (0 : Int32) by decide), jn_eq, J_sub, J_sub]
      have fin := ih (k + 1) w (by omega) (by omega) (by omega)
      rw [e1] at fin
      by_cases c1 : 0 < fd V A 8 - fd V B 8
      · rw [if_pos (by rw [J_0lt] <;> omega)]
        exact fin
      · have c2 : fd V A 8 - fd V B 8 = 0 := by omega
        rw [if_neg (by rw [J_0lt] <;> omega), if_pos (by rw [c2]; rfl)]
        by_cases c3 : 0 < fd V A 3 - fd V B 3
        · rw [if_pos (by rw [J_0lt] <;> omega)]
          exact fin
        · have c4 : fd V A 3 - fd V B 3 = 0 := by omega
          have lt : A < B := by omega
          have pr := (I.pr A B a0 lt b1).1
          rw [if_neg (by rw [J_0lt] <;> omega), if_pos (by rw [c4]; rfl), if_neg (by rw [J_le] <;> omega)]
          exact fin
theorem s_out (hN : 2000 ≤ N) (c0 : 0 ≤ c) (c1 : c ≤ 2000) (wv : WV Θ f o c v h V) : P_W_ask Θ N h f (J 0) (J (V 4)) = some (J (-2002), h ++ [oB 14 []]) ∧ P_W_ask Θ N h f (J 0) (J (-1)) = some (J (-2002), h ++ [oB 14 []]) ∧ P_W_ask Θ N h f (J 10) (J (V 4)) = some (J (-2002), h ++ [oB 14 []]) ∧ P_W_ask Θ N h f (J 10) (J (-1)) = some (J (-2002), h ++ [oB 14 []]) ∧ P_W_ask Θ N h f (J 13) (J (-1)) = some (J (-2004), h ++ [oB 10 []]) ∧ P_W_ask Θ N h f (J 5) (J (-1)) = some (J (-2004), h ++ [oB 10 []]) := by
  have I := wv.i
  have h4 := I.h4
  obtain ⟨S, rfl, so, wd⟩ := id wv
  refine ⟨a_shipAt wd (int_r) (by omega), a_shipAt wd (int_r) (by omega), a_rank wd hN (int_r) (by omega), a_rank wd hN (int_r) (by omega), a_dirt wd hN (int_r) (by omega), ?_⟩
  rw [a_until wd hN c0 c1 (int_r), if_pos (fnd_neg I (by omega))]
theorem WV.fit (wv : WV Θ f o c v h V) {S} (e : S 1 = V) (so : SNP o S) (wd : WD Θ f c v h S) (k : KX Θ f c h2 S (fun _ => False)) (g : FTW Θ f h2) (x : Nx Θ h h2 (fun x => f + 146 ≤ x ∧ x < f + 151) y z) : WV Θ f o c v h2 V := ⟨S, e, so, wd.fit k g x⟩
theorem w_ships (hN : 100000 ≤ N) (mi : mI9 Θ) (c0 : 0 ≤ c) (c1 : c ≤ 2000) (wv : WV Θ f o c v h V) : ∃ v2 h2, P_W_areShipsRight Θ N h f = some (.inl (J 1), h2) ∧ WV Θ f o c v2 h2 V ∧ FR Θ f v v2 h h2 400 40000 := by
  have hN2 : 2000 ≤ N := by omega
  have I := wv.i
  have h4 := I.h4
  obtain ⟨n, hn⟩ : ∃ n : Nat, (n : Int) = V 4 := ⟨(V 4).toNat, by omega⟩
  have mn : mny V = n := by unfold mny; omega
  obtain ⟨o1, -⟩ := s_out hN2 c0 c1 wv
  have w2 := wv.ex (n := 14)
  obtain ⟨-, o2, -⟩ := s_out hN2 c0 c1 w2
  have w3 := w2.ex (n := 14)
  obtain ⟨-, -, o3, -⟩ := s_out hN2 c0 c1 w3
  have w4 := w3.ex (n := 14)
  obtain ⟨-, -, -, o4, -⟩ := s_out hN2 c0 c1 w4
  have w5 := w4.ex (n := 14)
  obtain ⟨-, -, -, -, o5, -⟩ := s_out hN2 c0 c1 w5
  have w6 := w5.ex (n := 10)
  obtain ⟨-, -, -, -, -, o6⟩ := s_out hN2 c0 c1 w6
  have w7 := w6.ex (n := 10)
  have xx := (((((Nx.ex (Θ := Θ) (h := h) (P := fun _ => False) (n := 14)).trans (Nx.ex (n := 14))).trans (Nx.ex (n := 14))).trans (Nx.ex (n := 14))).trans (Nx.ex (n := 10))).trans (Nx.ex (n := 10))
  have fin : ∀ (hh : mH) (v9 : Nat), WV Θ f o c v9 hh V → ∃ h2, (gO Θ hh 0 f (bc (P_F_billTotal Θ N hh f) (fun v112 h111 => (if v112 = J (smm V 8 n) then (gO Θ h111 0 f (bc (P_F_billTotalByAccount Θ N h111 f) (fun v114 h113 => (if v114 = J (smm V 8 n) then (jn (fun (h116 : mH) => (gO Θ h116 0 f (bc (P_F_isConsistent Θ N h116 f) (fun v118 h117 => (if v118 = 0 then (some ((.inl (J 0) : Int32 ⊕ Nat), h117)) else (some (.inl (J 1), h117))))))) (fun j115 => (if J n = 0 then (j115 h113) else (gO Θ h113 0 f (bx (P_F_meanDirt Θ N h113 f) (fun v120 h119 => (if (FP.ddiv (FP.i2d (J (smm V 3 n))) (FP.i2d (J n))) &&& 0x7fffffffffffffff ≤ 0x7ff0000000000000 then (if (Op.cmpValue (FP.dcmp v120 (FP.ddiv (FP.i2d (J (smm V 3 n))) (FP.i2d (J n)))) .l) = 0 then (j115 h119) else (some (.inl (J 0), h119))) else none)) (fun n9 h9 => xp n9 h9)))))) else (some (.inl (J 0), h113)))))) else (some (.inl (J 0), h111)))))) = some (.inl (J 1), h2) ∧ WV Θ f o c v9 h2 V ∧ FR Θ f v9 v9 hh h2 0 0 := fun hh v9 w9 => by
    have h7 := I.h7.2.2
    rw [mn] at h7
    obtain ⟨S, e, so, wd⟩ := id w9
    obtain ⟨h2, x1, x2, x3, x4⟩ := x_cons hN c0 c1 wd.k wd.g
    have bt := x_billTotal hN2 wd.k
    have ba := x_billByAcc (N := N) wd.k
    rw [e, mn] at bt
    rw [e, h7] at ba
    refine ⟨h2, ?_, w9.fit e so wd x2 x3 x4, FR.fit x4⟩
    rw [w9.O, bt, bc_some, if_pos rfl, w9.O, ba, bc_some, if_pos rfl, jn_eq]
    by_cases z : n = 0
    · rw [if_pos (show J (n : Int) = (0 : Int32) by rw [z]; rfl)]
      dsimp only
      rw [w9.O, x1, bc_some, if_neg (show ¬ J 1 = (0 : Int32) by decide)]
    · have md := x_mean hN2 wd.k (by rw [e]; omega)
      rw [e, mn, ← hn] at md
      have nn := dd_nn (s := smm V 3 n) (n := (n : Int)) (by omega) (by omega)
      rw [if_neg (by rw [J_eq0] <;> omega), w9.O, md, bx_inl, if_pos (vn64 nn), if_pos (cmp_self nn)]
      dsimp only
      rw [w9.O, x1, bc_some, if_neg (show ¬ J 1 = (0 : Int32) by decide)]
  obtain ⟨v8, h8, u1, u2, u3⟩ := shp_L (N := N) hN2 mi c0 c1 hn (K := fun h86 u87 u88 u89 => (P_W_areShipsRight_377 Θ N (fun h109 u110 => (if u110 = 0 then (some (.inl (J 0), h109)) else (gO Θ h109 0 f (bc (P_F_billTotal Θ N h109 f) (fun v112 h111 => (if v112 = u87 then (gO Θ h111 0 f (bc (P_F_billTotalByAccount Θ N h111 f) (fun v114 h113 => (if v114 = u87 then (jn (fun (h116 : mH) => (gO Θ h116 0 f (bc (P_F_isConsistent Θ N h116 f) (fun v118 h117 => (if v118 = 0 then (some (.inl (J 0), h117)) else (some (.inl (J 1), h117))))))) (fun j115 => (if J n = 0 then (j115 h113) else (gO Θ h113 0 f (bx (P_F_meanDirt Θ N h113 f) (fun v120 h119 => (if (FP.ddiv (FP.i2d u88) (FP.i2d (J n))) &&& 0x7fffffffffffffff ≤ 0x7ff0000000000000 then (if (Op.cmpValue (FP.dcmp v120 (FP.ddiv (FP.i2d u88) (FP.i2d (J n)))) .l) = 0 then (j115 h119) else (some (.inl (J 0), h119))) else none)) (fun n9 h9 => xp n9 h9)))))) else (some (.inl (J 0), h113)))))) else (some (.inl (J 0), h111)))))))) f (J n) u87 u88 N h86 u89 (J 0))) n 0 N v _ (by omega) (by omega) w7
  have r1 := rnk_L (N := N) hN2 c0 c1 hn u2 (f2 := J (smm V 8 n)) (f3 := J (smm V 3 n)) (K := fun h109 u110 => (if u110 = 0 then (some (.inl (J 0), h109)) else (gO Θ h109 0 f (bc (P_F_billTotal Θ N h109 f) (fun v112 h111 => (if v112 = J (smm V 8 n) then (gO Θ h111 0 f (bc (P_F_billTotalByAccount Θ N h111 f) (fun v114 h113 => (if v114 = J (smm V 8 n) then (jn (fun (h116 : mH) => (gO Θ h116 0 f (bc (P_F_isConsistent Θ N h116 f) (fun v118 h117 => (if v118 = 0 then (some (.inl (J 0), h117)) else (some (.inl (J 1), h117))))))) (fun j115 => (if J n = 0 then (j115 h113) else (gO Θ h113 0 f (bx (P_F_meanDirt Θ N h113 f) (fun v120 h119 => (if (FP.ddiv (FP.i2d (J (smm V 3 n))) (FP.i2d (J n))) &&& 0x7fffffffffffffff ≤ 0x7ff0000000000000 then (if (Op.cmpValue (FP.dcmp v120 (FP.ddiv (FP.i2d (J (smm V 3 n))) (FP.i2d (J n)))) .l) = 0 then (j115 h119) else (some (.inl (J 0), h119))) else none)) (fun n9 h9 => xp n9 h9)))))) else (some (.inl (J 0), h113)))))) else (some (.inl (J 0), h111)))))))) n 0 N (by omega) (by omega) (by omega)
  obtain ⟨h9, f1, f2, f3⟩ := fin h8 v8 u2
  refine ⟨v8, h9, ?_, f2, (((FR.of (f := f) (v := v) xx (fun _ q => q.elim)).trans u3).trans f3).up (by omega) (by omega)⟩
  unfold P_W_areShipsRight
  rw [wv.O, g_count wv, bc_some, jn_eq, jn_eq, if_neg (by rw [J_lt] <;> omega), o1, bc_some, if_pos rfl, o2, bc_some, if_pos rfl, o3, bc_some, if_pos rfl, o4, bc_some, if_pos rfl, o5, bc_some, if_pos rfl, o6, bc_some, if_pos rfl]
  rw [← hn]
  refine Eq.trans u1 ?_
  refine Eq.trans r1 ?_
  rw [if_neg (show ¬ J 1 = (0 : Int32) by decide)]
  exact f1
end SH
