/-! the sea, as the law asks -/
/-- the sea's level, by the hours of its tide -/
def tdl (k : Int) : Int := if k ≤ 6 then 40 + 20 * k else 160 - 20 * (k - 6)
theorem sea_tdl {p : Int} : sea p = tdl (p % 12) := rfl
section SE
variable {Θ : mW} {o : Option (Int → Int)} {N f q q2 v a b n : Nat} {c c2 k : Int} {l l2 : List Int} {h h0 h1 h2 : mH} {S S2 : Nat → Int → Int} {V W G L : Int → Int} {P : Nat → Prop} {y z y2 z2 : Nat}
theorem tide_L {f3 : Int32} {p : Int} (p0 : 0 ≤ p) (p1 : p ≤ 9999) {K : mH → Int32 → Option ((Int32 ⊕ Nat) × mH)} : ∀ (r : Nat) (k : Int) (w : Nat), 1 ≤ k → k + r = p % 12 + 1 → r < w → P_W_isSeaRight_63 Θ N K f (J p) f3 w h (J (tdl (k - 1))) (J k) = K h (J (sea p)) := by
  intro r
  induction r with
  | zero =>
    intro k w hk hr hw
    obtain ⟨w, rfl⟩ : ∃ n', w = n' + 1 := ⟨w - 1, by omega⟩
    rw [E_W_isSeaRight_63, B_W_isSeaRight_63, J_rem12 p0 (by omega), if_pos (by rw [J_lt] <;> omega), sea_tdl, show k - 1 = p % 12 by omega]
  | succ r ih =>
    intro k w hk hr hw
    obtain ⟨w, rfl⟩ : ∃ n', w = n' + 1 := ⟨w - 1, by omega⟩
    have i := ih (k + 1) w (by omega) (by omega) (by omega)
    rw [E_W_isSeaRight_63, B_W_isSeaRight_63, J_rem12 p0 (by omega), if_neg (by rw [J_lt] <;> omega), jn_eq]
    by_cases z : 7 ≤ k
    · rw [if_pos (by rw [J_le] <;> omega), J_add]
      dsimp only
      rw [J_add, show tdl (k - 1) + -20 = tdl (k + 1 - 1) by unfold tdl; split <;> split <;> omega]
      exact i
    · rw [if_neg (by rw [J_le] <;> omega), J_add]
      dsimp only
      rw [J_add, show tdl (k - 1) + 20 = tdl (k + 1 - 1) by unfold tdl; split <;> split <;> omega]
      exact i
theorem w_sea (hN : 100000 ≤ N) (c0 : 0 ≤ c) (c1 : c ≤ 2000) (wv : WV Θ f o c v h V) {p : Int} (p0 : 0 ≤ p) (p1 : p ≤ 9999) : ∃ h2, P_W_isSeaRight Θ N h f (J p) = some (.inl (J 1), h2) ∧ WV Θ f o c v h2 V ∧ Nx Θ h h2 (fun _ => False) 4 24 := by
  have w2 := wv.ex (n := 11)
  have w3 := w2.ex (n := 11)
  have w4 := w3.ex (n := 11)
  have w5 := w4.ex (n := 11)
  have xx := (((Nx.ex (Θ := Θ) (h := h) (P := fun _ => False) (n := 11)).trans (Nx.ex (n := 11))).trans (Nx.ex (n := 11))).trans (Nx.ex (n := 11))
  have g1 : P_W_ask Θ N h f (J 3) (J (-1)) = some (J (-2003), h ++ [oB 11 []]) := by
    obtain ⟨S, rfl, so, wd⟩ := id wv
    exact a_sea wd (int_r) (by omega)
  have g2 : P_W_ask Θ N (h ++ [oB 11 []]) f (J 3) (J 10000) = some (J (-2003), h ++ [oB 11 []] ++ [oB 11 []]) := by
    obtain ⟨S, rfl, so, wd⟩ := id w2
    exact a_sea wd (int_r) (by omega)
  have g3 : P_W_ask Θ N (h ++ [oB 11 []] ++ [oB 11 []]) f (J 4) (J 97) = some (J (-2003), h ++ [oB 11 []] ++ [oB 11 []] ++ [oB 11 []]) := by
    obtain ⟨S, rfl, so, wd⟩ := id w3
    exact a_lvl wd (by omega) c0 c1 (int_r) (by omega)
  have g4 : P_W_ask Θ N (h ++ [oB 11 []] ++ [oB 11 []] ++ [oB 11 []]) f (J 4) (J (-1)) = some (J (-2003), h ++ [oB 11 []] ++ [oB 11 []] ++ [oB 11 []] ++ [oB 11 []]) := by
    obtain ⟨S, rfl, so, wd⟩ := id w4
    exact a_lvl wd (by omega) c0 c1 (int_r) (by omega)
  refine ⟨_, ?_, w5, xx⟩
  have t := tide_L (Θ := Θ) (N := N) (f := f) (f3 := J 1) (h := h ++ [oB 11 []] ++ [oB 11 []] ++ [oB 11 []] ++ [oB 11 []]) p0 p1 (K := fun h9 u10 => (if J 1 = 0 then (some (.inl (J 0), h9)) else (gO Θ h9 0 f (bx (P_F_seaLevel Θ N h9 f (J p)) (fun v12 h11 => (if v12 = u10 then (gO Θ h11 0 f (bx (P_F_seaLevelByHours Θ N h11 f (J p)) (fun v14 h13 => (if v14 = u10 then (some (.inl (J 1), h13)) else (some (.inl (J 0), h13)))) (fun n9 h9 => xp n9 h9))) else (some (.inl (J 0), h11)))) (fun n9 h9 => xp n9 h9))))) (p % 12).toNat 1 N (by omega) (by omega) (by omega)
  unfold P_W_isSeaRight
  rw [g1, bc_some, jn_eq, jn_eq, if_pos rfl, g2, bc_some, if_pos rfl, g3, bc_some, if_pos rfl, g4, bc_some, if_pos rfl]
  refine Eq.trans t ?_
  rw [if_neg (show ¬ J 1 = (0 : Int32) by decide), w5.O, x_seaLevel (int_r), if_pos ⟨p0, p1⟩, bx_inl, if_pos rfl, w5.O, x_seaByHours (int_r) hN, if_pos ⟨p0, p1⟩, bx_inl, if_pos rfl]
/-! a look at all -/
noncomputable def lk1 (V : Int → Int) : Nat → Int → Int32 → Int32
  | 0, _, x => x
  | r + 1, k, x => lk1 V r (k + 1) (((J 31) * (((J 31) * (((J 31) * (((J 31) * (((J 31) * (((J 31) * x) + J (fd V k 0))) + J (plc V k))) + J (fd V k 3))) + J (fd V k 6))) + J (fd V k 7))) + J (fd V k 8))
noncomputable def lk2 (V : Int → Int) : Nat → Int → Int32 → Int32
  | 0, _, x => x
  | r + 1, p, x => lk2 V r (p + 1) (((J 31) * (((J 31) * x) + J (if V (80 + p) = 1 then 1 else 0))) + J (whoP V p))
noncomputable def lk (V : Int → Int) : Int32 := lk2 V 60 0 (lk1 V (mny V) 0 (((J 31) * (((J 31) * (((J 31) * (((J 31) * (((J 31) * (((J 31) * J (V 0)) + J (V 1))) + J (V 2))) + J (lva V 1))) + J (lva V 3))) + J (V 6 - V 7))) + J (V 7)))
theorem ships_L (hN : 2000 ≤ N) (c0 : 0 ≤ c) (c1 : c ≤ 2000) (hn : (n : Int) = V 4) {K : mH → Int32 → Option ((Int32 ⊕ Nat) × mH)} : ∀ (r k w : Nat) (h : mH) (x : Int32), k + r = n → r < w → WV Θ f o c v h V → ∃ h2, P_W_looks_62 Θ N K f w h x (J k) = K h2 (lk1 V r k x) ∧ WV Θ f o c v h2 V ∧ Nx Θ h h2 (fun _ => False) r (6 * r) := by
  intro r
  induction r with
  | zero =>
    intro k w h x hk hw wv
    have h4 := wv.i.h4
    obtain ⟨w, rfl⟩ : ∃ n', w = n' + 1 := ⟨w - 1, by omega⟩
    rw [E_W_looks_62, B_W_looks_62, wv.O, g_count wv, bc_some, if_pos (by rw [J_le] <;> omega)]
    exact ⟨h, rfl, wv, Nx.refl⟩
  | succ r ih =>
    intro k w h x hk hw wv
    have I := wv.i
    have h4 := I.h4
    obtain ⟨w, rfl⟩ : ∃ n', w = n' + 1 := ⟨w - 1, by omega⟩
    have e1 : ((k + 1 : Nat) : Int) = (k : Int) + 1 := by omega
    obtain ⟨h3, p1, p2, p3⟩ := q_place (N := N) hN c0 c1 wv (k := k) (by omega) (by omega)
    obtain ⟨fb, fd', fm, -, -⟩ := q_f (N := N) hN c0 c1 p2 (k := k) (by omega) (by omega)
    have fh : P_F_hoursAfloat Θ N h3 f (J (fd V k 0)) = some (.inl (J (fd V k 7)), h3) := by
      have ir := id_rng I c0 c1 (k := k) (by omega) (by omega)
      have fo := fnd_of I (k := (k : Int)) (by omega) (by omega)
      obtain ⟨S, rfl, so, wd⟩ := id p2
      rw [x_hoursAfloat (int_r) hN wd.k, fo, if_neg (by omega)]
    obtain ⟨h4', u1, u2, u3⟩ := ih (k + 1) w h3 (((J 31) * (((J 31) * (((J 31) * (((J 31) * (((J 31) * (((J 31) * x) + J (fd V k 0))) + J (plc V k))) + J (fd V k 3))) + J (fd V k 6))) + J (fd V k 7))) + J (fd V k 8)) (by omega) (by omega) p2
    refine ⟨h4', ?_, u2, (p3.trans u3).up (by omega) (by omega)⟩
    rw [E_W_looks_62, B_W_looks_62, wv.O, g_count wv, bc_some, if_neg (by rw [J_le] <;> omega), wv.O, g_at wv (by omega) (by omega), bx_inl, p1, bc_some, p2.O, fd', bx_inl, p2.O, fm, bx_inl, p2.O, fh, bx_inl, p2.O, fb, bx_inl, J_add, lk1, ← e1]
    exact u1
theorem mets_L (hN : 2000 ≤ N) (c0 : 0 ≤ c) (c1 : c ≤ 2000) {K : mH → Int32 → Option ((Int32 ⊕ Nat) × mH)} : ∀ (r p w : Nat) (h : mH) (x : Int32), p + r = 60 → r < w → WV Θ f o c v h V → ∃ h2, P_W_looks_139 Θ N K f w h x (J p) = K h2 (lk2 V r p x) ∧ WV Θ f o c v h2 V ∧ Nx Θ h h2 (fun _ => False) r (6 * r) := by
  intro r
  induction r with
  | zero =>
    intro p w h x hk hw wv
    obtain ⟨w, rfl⟩ : ∃ n', w = n' + 1 := ⟨w - 1, by omega⟩
    rw [E_W_looks_139, B_W_looks_139, if_pos (by rw [J_le] <;> omega)]
    exact ⟨h, rfl, wv, Nx.refl⟩
  | succ r ih =>
    intro p w h x hk hw wv
    obtain ⟨w, rfl⟩ : ∃ n', w = n' + 1 := ⟨w - 1, by omega⟩
    have e1 : ((p + 1 : Nat) : Int) = (p : Int) + 1 := by omega
    obtain ⟨h3, p1, p2, p3⟩ := b_pos (N := N) hN wv (p := p) (by omega) (by omega)
    obtain ⟨h4', u1, u2, u3⟩ := ih (p + 1) w h3 (((J 31) * (((J 31) * x) + J (if V (80 + p) = 1 then 1 else 0))) + J (whoP V p)) (by omega) (by omega) p2
    refine ⟨h4', ?_, u2, (p3.trans u3).up (by omega) (by omega)⟩
    rw [E_W_looks_139, B_W_looks_139, if_neg (by rw [J_le] <;> omega), wv.O, g_blk hN wv (by omega) (by omega), bx_inl, w_told (by split <;> simp), bc_some, p1, bc_some, J_add, lk2, ← e1]
    exact u1
theorem w_looks (hN : 2000 ≤ N) (c0 : 0 ≤ c) (c1 : c ≤ 2000) (wv : WV Θ f o c v h V) : ∃ h2, P_W_looks Θ N h f = some (.inl (lk V), h2) ∧ WV Θ f o c v h2 V ∧ Nx Θ h h2 (fun _ => False) 68 408 := by
  have I := wv.i
  have h4 := I.h4
  have h2 := I.h2
  obtain ⟨n, hn⟩ : ∃ n : Nat, (n : Int) = V 4 := ⟨(V 4).toNat, by omega⟩
  have mn : mny V = n := by unfold mny; omega
  have ff : P_F_hour Θ N h f = some (J (V 0), h) ∧ P_F_level Θ N h f = some (J (V 1), h) ∧ P_F_isGateOpen Θ N h f = some (J (V 2), h) ∧ P_F_levelAfter Θ N h f (J 1) = some (.inl (J (lva V 1)), h) ∧ P_F_levelAfter Θ N h f (J 3) = some (.inl (J (lva V 3)), h) ∧ P_F_billTotalByAccount Θ N h f = some (J (V 6 - V 7), h) ∧ P_F_paidTotal Θ N h f = some (J (V 7), h) := by
    obtain ⟨S, rfl, so, wd⟩ := id wv
    refine ⟨x_hour wd.k, x_level wd.k, x_isGateOpen wd.k, ?_, ?_, x_billByAcc wd.k, x_paidTotal wd.k⟩
    · rw [x_levelAfter (int_r) hN c0 c1 wd.k, if_pos (by omega)]
      rfl
    · rw [x_levelAfter (int_r) hN c0 c1 wd.k, if_pos (by omega)]
      rfl
  obtain ⟨f1, f2, f3, f4, f5, f6, f7⟩ := ff
  obtain ⟨h3, a1, a2, a3⟩ := ships_L (N := N) hN c0 c1 hn (K := fun h31 u32 => (P_W_looks_139 Θ N (fun h39 u40 => (some (.inl u40, h39))) f N h31 u32 (J 0))) n 0 N h (((J 31) * (((J 31) * (((J 31) * (((J 31) * (((J 31) * (((J 31) * J (V 0)) + J (V 1))) + J (V 2))) + J (lva V 1))) + J (lva V 3))) + J (V 6 - V 7))) + J (V 7)) (by omega) (by omega) wv
  obtain ⟨h5, b1, b2, b3⟩ := mets_L (N := N) hN c0 c1 (K := fun h39 u40 => (some ((.inl u40 : Int32 ⊕ Nat), h39))) 60 0 N h3 (lk1 V n 0 (((J 31) * (((J 31) * (((J 31) * (((J 31) * (((J 31) * (((J 31) * J (V 0)) + J (V 1))) + J (V 2))) + J (lva V 1))) + J (lva V 3))) + J (V 6 - V 7))) + J (V 7))) (by omega) (by omega) a2
  refine ⟨h5, ?_, b2, (a3.trans b3).up (by omega) (by omega)⟩
  unfold P_W_looks
  rw [wv.O, f1, bc_some, wv.O, f2, bc_some, wv.O, f3, bc_some, w_told h2, bc_some, wv.O, f4, bx_inl, wv.O, f5, bx_inl, wv.O, f6, bc_some, wv.O, f7, bc_some]
  refine Eq.trans a1 ?_
  refine Eq.trans b1 ?_
  unfold lk
  rw [mn]
  rfl
end SE
