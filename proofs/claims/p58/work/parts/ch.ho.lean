/-! the hours, as the law asks -/
theorem flo_rng {V : Int → Int} {w : Int} : ∀ t : Nat, flo V w t = -2005 ∨ (0 ≤ flo V w t ∧ flo V w t ≤ t)
  | 0 => Or.inl rfl
  | t + 1 => by
    have := flo_rng (V := V) (w := w) t
    rw [flo]
    split <;> omega
section HO
variable {Θ : mW} {o : Option (Int → Int)} {N f q q2 v a b n : Nat} {c c2 k : Int} {l l2 : List Int} {h h0 h1 h2 : mH} {S S2 : Nat → Int → Int} {V W G L : Int → Int} {P : Nat → Prop} {y z y2 z2 : Nat}
theorem w_save (hN : 2000 ≤ N) (wv : WV Θ f o c v h V) : ∃ h2, P_F_save Θ N h f = some (J (V 4), h2) ∧ WV Θ f (some V) c v h2 V ∧ Nx Θ h h2 (KR f) 0 0 := by
  obtain ⟨S, rfl, so, wd⟩ := wv
  obtain ⟨ha, Sa, a1, a2, a3, a4, a5, a6⟩ := x_save (N := N) hN wd.k
  exact ⟨ha, a1, ⟨Sa, a4, ⟨a5, a6⟩, wd.kr a2 a3⟩, a3⟩
theorem w_restore (hN : 2000 ≤ N) (I : In c V) (wv : WV Θ f (some V) c2 v h W) : ∃ h2, P_F_restore Θ N h f = some (.inl (J (V 4)), h2) ∧ WV Θ f none c v h2 V ∧ Nx Θ h h2 (KR f) 0 0 := by
  obtain ⟨Sb, eb, ⟨sb4, sb3⟩, wb⟩ := wv
  obtain ⟨hd, Sd, f1, f2, f3, f4⟩ := x_restore (N := N) hN wb.k sb4 (c2 := c) (U := V) I sb3 (wb.k.ok.1.ok)
  have fin := f2.cg (V := V) f4 I.ok
  exact ⟨hd, f1, ⟨ur Sd V, if_pos rfl, trivial, wb.kr fin f3⟩, f3⟩
theorem hour_go (hN : 2000 ≤ N) (c0 : 0 ≤ c) (c1 : c ≤ 2000) (w : WV Θ f o c v h V) : ∃ x h2, P_F_pass Θ N h f (J 1) = some (.inl x, h2) ∧ WV Θ f o (c + 1) v h2 (hoV V) ∧ Nx Θ h h2 (KR f) 0 0 := by
  have := fc_go (Θ := Θ) w (pf := fun _ => True) (g := gPas 1) (a := (wtO 1 0 V).1) (W := hoV V) (fun S e kx => by
    have := x_pas (N := N) (i := 1) (int_r) hN c0 c1 kx
    rwa [e] at this) (by unfold gPas; exact if_pos (by omega))
  obtain ⟨h2, a, b, d⟩ := this
  exact ⟨_, h2, a, b, d⟩
/-- levels, foreseen -/
theorem lvs_L (hN : 2000 ≤ N) (c0 : 0 ≤ c) (c1 : c ≤ 2000) (hq : ¬ KC f v q) {f1 f2 f5 f6 f7 : Int32} {K : mH → Option ((Int32 ⊕ Nat) × mH)} : ∀ (r k w : Nat) (h : mH) (G : Int → Int), k + r = 97 → r < w → WV Θ f o c v h V → AI Θ q 97 G h → (∀ i : Nat, i < k → G i = lva V i) → ∃ h2 G2, P_W_areHoursRight_83 Θ N K f f1 f2 q f5 f6 f7 w h (J k) = K h2 ∧ WV Θ f o c v h2 V ∧ AI Θ q 97 G2 h2 ∧ (∀ i : Nat, i < 97 → G2 i = lva V i) ∧ Nx Θ h h2 (fun x => x = q) 0 0 := by
  intro r
  induction r with
  | zero =>
    intro k w h G hk hw wv ai g
    obtain ⟨w, rfl⟩ : ∃ n', w = n' + 1 := ⟨w - 1, by omega⟩
    rw [E_W_areHoursRight_83, B_W_areHoursRight_83, if_pos (by rw [J_le] <;> omega)]
    exact ⟨h, G, rfl, wv, ai, fun i hi => g i (by omega), Nx.refl⟩
  | succ r ih =>
    intro k w h G hk hw wv ai g
    obtain ⟨w, rfl⟩ : ∃ n', w = n' + 1 := ⟨w - 1, by omega⟩
    have e1 : ((k + 1 : Nat) : Int) = (k : Int) + 1 := by omega
    have la : P_F_levelAfter Θ N h f (J k) = some (.inl (J (lva V k)), h) := by
      obtain ⟨S, rfl, so, wd⟩ := id wv
      rw [x_levelAfter (int_r) hN c0 c1 wd.k, if_pos (by omega), Int.toNat_natCast]
    obtain ⟨h3, a1, a2, a3⟩ := ai.w (by omega) (x := k) (v := lva V k) (by omega) (by omega)
    obtain ⟨h4, G4, u1, u2, u3, u4, u5⟩ := ih (k + 1) w h3 _ (by omega) (by omega) (wv.out a3 (fun x e => by rw [e]; exact hq)) a2 (fun i hi => by
      by_cases z : i = k
      · rw [z, up1_eq]
      · rw [up1_nj (by omega)]
        exact g i (by omega))
    refine ⟨h4, G4, ?_, u2, u3, u4, a3.trans u5⟩
    rw [E_W_areHoursRight_83, B_W_areHoursRight_83, if_neg (by rw [J_le] <;> omega), wv.O, la, bx_inl, a1, bo_some, J_add, ← e1]
    exact u1
/-- what the law finds, hour by hour -/
def HRS (V : Int → Int) (s b5 : Int) (fo : Nat → Int) : Prop := (∀ j : Nat, j ≤ 96 → -3000 ≤ fo j ∧ fo j ≤ 100) ∧ ((b5 = 0 ∧ ∀ j : Nat, fo (j + 1) = fo j) ∨ (b5 = 1 ∧ ∃ k : Int, 0 ≤ k ∧ k < V 4 ∧ s = fd V k 0 ∧ fd V k 4 ≠ -1 ∧ ∀ j : Nat, fo (j + 1) = if fo j = -2005 ∧ fd V k 2 ≤ lva V (j + 1) then ((j + 1 : Nat) : Int) else fo j))
theorem hours_L (hN : 2000 ≤ N) (I : In c V) (c0 : 0 ≤ c) (c1 : c + 96 ≤ 2000) (hq : ¬ KC f v q) {f2 f6 : Int32} {s b5 : Int} {fo : Nat → Int} (hf : HRS V s b5 fo) (g : ∀ i : Nat, i < 97 → G i = lva V i) {K : mH → Int32 → Int32 → Option ((Int32 ⊕ Nat) × mH)} : ∀ (r j w : Nat) (h : mH), j + r = 96 → r < w → WV Θ f o (c + j) v h (hoN V j) → AI Θ q 97 G h → ∃ h2, P_W_areHoursRight_128 Θ N K f (J s) f2 q (J b5) f6 w h (J (fo j)) (J 1) (J ((j + 1 : Nat) : Int)) = K h2 (J (fo 96)) (J 1) ∧ WV Θ f o (c + 96) v h2 (hoN V 96) ∧ AI Θ q 97 G h2 ∧ Nx Θ h h2 (KC f v) 0 0 := by
  intro r
  induction r with
  | zero =>
    intro j w h hj hw wv ai
    obtain ⟨w, rfl⟩ : ∃ n', w = n' + 1 := ⟨w - 1, by omega⟩
    have : j = 96 := by omega
    subst this
    rw [E_W_areHoursRight_128, B_W_areHoursRight_128, if_pos (by rw [J_le] <;> omega)]
    exact ⟨h, rfl, wv, ai, Nx.refl⟩
  | succ r ih =>
    intro j w h hj hw wv ai
    obtain ⟨w, rfl⟩ : ∃ n', w = n' + 1 := ⟨w - 1, by omega⟩
    have e1 : ((j + 1 + 1 : Nat) : Int) = ((j + 1 : Nat) : Int) + 1 := by omega
    obtain ⟨x, h3, p1, p2, p3⟩ := hour_go (N := N) hN (by omega) (by omega) wv
    have p2' : WV Θ f o (c + (j + 1 : Nat)) v h3 (hoN V (j + 1)) := by
      rw [show c + ((j + 1 : Nat) : Int) = c + j + 1 by omega]
      exact p2
    have p4 : Nx Θ h h3 (KC f v) 0 0 := (FR.kr (v := v) p3).1
    have ai3 := ai.nx p4 hq
    obtain ⟨-, at1, -, -, at4⟩ := hoN_at I c0 (j + 1) (by omega)
    have I3 := p2'.i
    have l3 := I3.h1
    rw [at1] at l3
    have lv : P_F_level Θ N h3 f = some (J (lva V (j + 1)), h3) := by
      obtain ⟨S, e, so, wd⟩ := id p2'
      rw [x_level wd.k, e, at1]
    have rd : aR Θ h3 0 q (J ((j + 1 : Nat) : Int)) = some (J (lva V (j + 1))) := by
      rw [ai3.r (by omega) (by omega) (by omega), g (j + 1) (by omega)]
    obtain ⟨h4, u1, u2, u3, u4⟩ := ih (j + 1) w h3 (by omega) (by omega) p2' ai3
    refine ⟨h4, ?_, u2, u3, p4.trans u4⟩
    have fr := hf.1 j (by omega)
    have key : ∀ F : mH → Int32 → Option ((Int32 ⊕ Nat) × mH), jn F (fun j31 => (jn (fun (h35 : mH) => (j31 h35 (J (fo j)))) (fun j34 => (if J b5 = 0 then (j34 h3) else (if J (fo j) = (J (-2005)) then (gO Θ h3 0 f (bx (P_F_isAfloat Θ N h3 f (J s)) (fun v37 h36 => (if v37 = 0 then (j34 h36) else (j31 h36 (J ((j + 1 : Nat) : Int))))) (fun n9 h9 => xp n9 h9))) else (j34 h3)))))) = F h3 (J (fo (j + 1))) := fun F => by
      rw [jn_eq, jn_eq]
      rcases hf.2 with ⟨rfl, e⟩ | ⟨rfl, k, k0, k1, rfl, kd, e⟩
      · rw [if_pos (show J 0 = (0 : Int32) from rfl), e]
      · rw [if_neg (show ¬ J 1 = (0 : Int32) by decide), e]
        by_cases z : fo j = -2005
        · have fl := (q_f (N := N) hN (by omega) (by omega) p2' k0 (by rw [at4]; exact k1)).2.2.2.2
          rw [hoN_fd k0 (by omega), hoN_fd k0 (by omega), hoN_fd k0 (by omega), at1] at fl
          rw [if_pos (by rw [z]), p2'.O, fl, bx_inl]
          by_cases z2 : fd V k 2 ≤ lva V (j + 1)
          · rw [if_pos (Or.inr z2), if_neg (show ¬ J 1 = (0 : Int32) by decide), if_pos ⟨z, z2⟩]
          · rw [if_neg (show ¬ (fd V k 4 = -1 ∨ fd V k 2 ≤ lva V (j + 1)) by omega), if_pos (show J 0 = (0 : Int32) from rfl), if_neg (fun q => z2 q.2)]
        · rw [if_neg (by rw [J_eq] <;> omega), if_neg (fun q => z q.1)]
    rw [E_W_areHoursRight_128, B_W_areHoursRight_128, if_neg (by rw [J_le] <;> omega), wv.O, p1, bx_inl, jn_eq, jn_eq, if_neg (show ¬ J 1 = (0 : Int32) by decide), p2'.O, lv, bc_some, rd, bo_some, if_pos rfl, p2'.O, lv, bc_some, if_neg (by rw [J_lt0] <;> omega), p2'.O, lv, bc_some, if_neg (by rw [J_lt] <;> omega)]
    refine (key _).trans ?_
    rw [J_add, ← e1]
    exact u1
/-- who is asked, and what the dock foresees -/
theorem who_go (hN : 2000 ≤ N) (c0 : 0 ≤ c) (c1 : c ≤ 2000) (wv : WV Θ f o c v h V) {s : Int} (hs : s = -1 ∨ ∃ k : Int, 0 ≤ k ∧ k < V 4 ∧ s = fd V k 0) : ∃ (b5 ans : Int) (fo : Nat → Int) (h2 : mH), (∀ F : mH → Int32 → Option ((Int32 ⊕ Nat) × mH), jn F (fun j7 => (jn (fun (h59 : mH) => (j7 h59 (J 0))) (fun j58 => (if J s < 0 then (j58 h) else (gO Θ h 0 f (bx (P_F_isInDock Θ N h f (J s)) (fun v61 h60 => (if v61 = 0 then (j58 h60) else (j7 h60 (J 1)))) (fun n9 h9 => xp n9 h9))))))) = F h (J b5)) ∧ (∀ F : mH → Int32 → Option ((Int32 ⊕ Nat) × mH), jn F (fun j10 => (if 0 ≤ J s then (bc (P_W_ask Θ N h f (J 5) (J s)) (fun v57 h56 => (j10 h56 v57))) else (j10 h (J (-2004))))) = F h2 (J ans)) ∧ (∀ F : mH → Int32 → Option ((Int32 ⊕ Nat) × mH), jn F (fun j13 => (if 0 ≤ J s then (gO Θ h2 0 f (bx (P_F_isAfloat Θ N h2 f (J s)) (fun v55 h54 => (if v55 = 0 then (j13 h54 (J (-2005))) else (j13 h54 (J 0)))) (fun n9 h9 => xp n9 h9))) else (j13 h2 (J (-2004))))) = F h2 (J (fo 0))) ∧ WV Θ f o c v h2 V ∧ Nx Θ h h2 (fun _ => False) 1 6 ∧ HRS V s b5 fo ∧ ans = fo 96 := by
  have I := wv.i
  rcases hs with rfl | ⟨k, k0, k1, rfl⟩
  · refine ⟨0, -2004, fun _ => -2004, h, fun F => ?_, fun F => ?_, fun F => ?_, wv, Nx.refl.up (by omega) (by omega), ⟨fun _ _ => by dsimp only; omega, Or.inl ⟨rfl, fun _ => rfl⟩⟩, rfl⟩
    · rw [jn_eq, jn_eq, if_pos (show J (-1) < 0 by decide)]
    · rw [jn_eq, if_neg (show ¬ 0 ≤ J (-1) by decide)]
    · rw [jn_eq, if_neg (show ¬ 0 ≤ J (-1) by decide)]
  · have ir := id_rng I c0 c1 k0 k1
    have fk := fnd_of I k0 k1
    obtain ⟨-, -, -, fi, ff⟩ := q_f (N := N) hN c0 c1 wv k0 k1
    have s0 : 0 ≤ J (fd V k 0) := by rw [J_0le] <;> omega
    have s1 : ¬ J (fd V k 0) < 0 := by rw [J_lt0] <;> omega
    have un : P_W_ask Θ N h f (J 5) (J (fd V k 0)) = if fd V k 4 = -1 ∨ fd V k 2 ≤ V 1 then some (J 0, h) else if hgo V k 96 1 = -1 then some (J (-2005), h ++ [oB 12 []]) else some (J (hgo V k 96 1), h) := by
      obtain ⟨S, rfl, so, wd⟩ := id wv
      rw [a_until wd hN c0 c1 (int_r), fk, if_neg (by omega)]
    by_cases z : fd V k 4 = -1
    · rw [if_neg (by omega)] at fi
      rw [if_pos (Or.inl z)] at ff un
      refine ⟨0, 0, fun _ => 0, h, fun F => ?_, fun F => ?_, fun F => ?_, wv, Nx.refl.up (by omega) (by omega), ⟨fun _ _ => by dsimp only; omega, Or.inl ⟨rfl, fun _ => rfl⟩⟩, rfl⟩
      · rw [jn_eq, jn_eq, if_neg s1, wv.O, fi, bx_inl, if_pos (show J 0 = (0 : Int32) from rfl)]
      · rw [jn_eq, if_pos s0, un, bc_some]
      · rw [jn_eq, if_pos s0, wv.O, ff, bx_inl, if_neg (show ¬ J 1 = (0 : Int32) by decide)]
    · rw [if_pos z] at fi
      by_cases z2 : fd V k 2 ≤ V 1
      · rw [if_pos (Or.inr z2)] at ff un
        refine ⟨1, 0, fun _ => 0, h, fun F => ?_, fun F => ?_, fun F => ?_, wv, Nx.refl.up (by omega) (by omega), ⟨fun _ _ => by dsimp only; omega, Or.inr ⟨rfl, k, k0, k1, rfl, z, fun j => by dsimp only; rw [if_neg (by omega)]⟩⟩, rfl⟩
        · rw [jn_eq, jn_eq, if_neg s1, wv.O, fi, bx_inl, if_neg (show ¬ J 1 = (0 : Int32) by decide)]
        · rw [jn_eq, if_pos s0, un, bc_some]
        · rw [jn_eq, if_pos s0, wv.O, ff, bx_inl, if_neg (show ¬ J 1 = (0 : Int32) by decide)]
      · rw [if_neg (by omega)] at ff un
        have fh := flo_hgo (V := V) (w := k) 96 0 rfl
        have wx := wv.ex (n := 12)
        have un2 : ∃ h2, P_W_ask Θ N h f (J 5) (J (fd V k 0)) = some (J (flo V k 96), h2) ∧ WV Θ f o c v h2 V ∧ Nx Θ h h2 (fun _ => False) 1 6 := by
          rw [un, show (96 : Nat) = 0 + 96 from rfl, fh]
          by_cases z3 : hgo V k 96 1 = -1
          · rw [if_pos z3, if_pos z3]
            exact ⟨_, rfl, wx, Nx.ex⟩
          · rw [if_neg z3, if_neg z3]
            exact ⟨_, rfl, wv, Nx.refl.up (by omega) (by omega)⟩
        obtain ⟨h2, a1, a2, a3⟩ := un2
        have ff2 := (q_f (N := N) hN c0 c1 a2 k0 k1).2.2.2.2
        rw [if_neg (by omega)] at ff2
        refine ⟨1, flo V k 96, flo V k, h2, fun F => ?_, fun F => ?_, fun F => ?_, a2, a3, ⟨fun j hj => by have := flo_rng (V := V) (w := k) j; omega, Or.inr ⟨rfl, k, k0, k1, rfl, z, fun j => ?_⟩⟩, rfl⟩
        · rw [jn_eq, jn_eq, if_neg s1, wv.O, fi, bx_inl, if_neg (show ¬ J 1 = (0 : Int32) by decide)]
        · rw [jn_eq, if_pos s0, a1, bc_some]
        · rw [jn_eq, if_pos s0, a2.O, ff2, bx_inl, if_pos (show J 0 = (0 : Int32) from rfl)]
          rfl
        · rw [flo]
          rfl
theorem w_hours (hN : 2000 ≤ N) (c0 : 0 ≤ c) (c1 : c + 96 ≤ 2000) (wv : WV Θ f o c v h V) {s : Int} (hs : s = -1 ∨ ∃ k : Int, 0 ≤ k ∧ k < V 4 ∧ s = fd V k 0) : ∃ h2, P_W_areHoursRight Θ N h f (J s) = some (.inl (J 1), h2) ∧ WV Θ f none c v h2 V ∧ FR Θ f v v h h2 140 930 := by
  have I := wv.i
  obtain ⟨h1, a1, a2, a3⟩ := w_looks (N := N) hN c0 (by omega) wv
  obtain ⟨h2, b1, b2, b3⟩ := w_save (N := N) hN a2
  obtain ⟨m1, m2, m3⟩ := ai_new (Θ := Θ) (h := h2) (n := 97) (by omega)
  have qk : ¬ KC f v (mwB Θ + h2.length) := fun k => by have := b2.hi _ k; omega
  have w3 := b2.out m3 (fun _ x => x.elim)
  obtain ⟨b5, ans, fo, h4, d1, d2, d3, d4, d5, d6, d7⟩ := who_go (N := N) hN c0 (by omega) w3 hs
  have ai4 := m2.nx d5 id
  obtain ⟨h5, G5, e1, e2, e3, e4, e5⟩ := lvs_L (N := N) hN c0 (by omega) qk (f1 := J s) (f2 := lk V) (f5 := J b5) (f6 := J ans) (f7 := J (fo 0)) (K := fun h19 => (bo (aR Θ h19 0 (mwB Θ + h2.length) (J 0)) (fun v20 => (gO Θ h19 0 f (bc (P_F_level Θ N h19 f) (fun v22 h21 => (jn (fun (h24 : mH) (s25 : Int32) => (P_W_areHoursRight_128 Θ N (fun h47 u48 u49 => (gO Θ h47 0 f (bx (P_F_restore Θ N h47 f) (fun v51 h50 => (if u49 = 0 then (some (.inl (J 0), h50)) else (if J ans = u48 then (bx (P_W_looks Θ N h50 f) (fun v53 h52 => (if v53 = lk V then (some (.inl (J 1), h52)) else (some (.inl (J 0), h52)))) (fun n9 h9 => xp n9 h9)) else (some (.inl (J 0), h50))))) (fun n9 h9 => xp n9 h9)))) f (J s) (lk V) (mwB Θ + h2.length) (J b5) (J ans) N h24 (J (fo 0)) s25 (J 1))) (fun j23 => (if v20 = v22 then (j23 h21 (J 1)) else (j23 h21 (J 0))))))))))) 97 0 N h4 (fun _ => 0) (by omega) (by omega) d4 ai4 (fun i hi => by omega)
  have lv : P_F_level Θ N h5 f = some (J (V 1), h5) := by
    obtain ⟨S, rfl, so, wd⟩ := id e2
    exact x_level wd.k
  have w5 : WV Θ f (some V) (c + (0 : Nat)) v h5 (hoN V 0) := by
    rw [show c + ((0 : Nat) : Int) = c by omega]
    exact e2
  obtain ⟨h6, g1, g2, g3, g4⟩ := hours_L (N := N) hN I c0 c1 qk (f2 := lk V) (f6 := J ans) d6 e4 (K := fun h47 u48 u49 => (gO Θ h47 0 f (bx (P_F_restore Θ N h47 f) (fun v51 h50 => (if u49 = 0 then (some (.inl (J 0), h50)) else (if J ans = u48 then (bx (P_W_looks Θ N h50 f) (fun v53 h52 => (if v53 = lk V then (some (.inl (J 1), h52)) else (some (.inl (J 0), h52)))) (fun n9 h9 => xp n9 h9)) else (some (.inl (J 0), h50))))) (fun n9 h9 => xp n9 h9)))) 96 0 N h5 (by omega) (by omega) w5 e3
  obtain ⟨h7, i1, i2, i3⟩ := w_restore (N := N) hN I g2
  obtain ⟨h8, j1, j2, j3⟩ := w_looks (N := N) hN c0 (by omega) i2
  refine ⟨h8, ?_, j2, ?_⟩
  · unfold P_W_areHoursRight
    rw [a1, bx_inl, a2.O, b1, bc_some]
    refine Eq.trans (m1 _) ?_
    rw [d1, d2, d3]
    refine Eq.trans e1 ?_
    rw [e3.r (by omega) (by omega) (by omega), bo_some, e2.O, lv, bc_some, jn_eq, if_pos (show J (G5 0) = J (V 1) from congrArg J (e4 0 (by omega)))]
    refine Eq.trans g1 ?_
    rw [g2.O, i1, bx_inl, if_neg (show ¬ J 1 = (0 : Int32) by decide), if_pos (by rw [d7]), j1, bx_inl, if_pos rfl]
  · have y1 := (a3.wid (P := fun _ => False) (Q := KC f v) (fun _ _ p => p.elim) (Nat.le_refl _) (Nat.le_refl _)).trans ((FR.kr (v := v) b3).1.trans ((m3.trans d5).wid (Q := KC f v) (fun _ _ p => p.elim) (Nat.le_refl _) (Nat.le_refl _)))
    have y2 : Nx Θ h h5 (KC f v) _ _ := Nx.new (P := KC f v) y1 e5.or2 (fun x e => by have := a3.1; have := b3.1; omega)
    exact (show FR Θ f v v h h8 _ _ from ⟨((y2.trans g4).trans (FR.kr (v := v) i3).1).trans (j3.wid (Q := KC f v) (fun _ _ p => p.elim) (Nat.le_refl _) (Nat.le_refl _)), Or.inl rfl⟩).up (by omega) (by omega)
end HO
