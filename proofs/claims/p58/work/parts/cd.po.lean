/-! positions, whole -/
theorem fcmp_z {x : UInt32} (hx : FP.Core.fIsNaN x = false) : Op.cmpValue (FP.fcmp x x) .l = 0 := by
  have e : FP.fcmp x x = some .eq := FP.Core.fcmp_refl hx
  rw [e]
  rfl
theorem dockP_60 {V : Int → Int} : dockP V 60 = dockL V := rfl
section PO
variable {Θ : mW} {o : Option (Int → Int)} {N f q v a b n : Nat} {c c2 : Int} {l l2 : List Int} {h h0 h1 h2 : mH} {S S2 : Nat → Int → Int} {V G : Int → Int} {P : Nat → Prop} {y z y2 z2 : Nat}
theorem met_L (hN : 2000 ≤ N) (mi : mI9 Θ) (c0 : 0 ≤ c) (c1 : c ≤ 2000) (hq : ¬ KC f v q) {f4 : Int32} (hn : (n : Int) = V 4) {K : mH → Int32 → Nat → Option ((Int32 ⊕ Nat) × mH)} : ∀ (r p w a b : Nat) (h : mH) (G : Int → Int), p + r = 60 → r < w → WV Θ f o c v h V → AI Θ q n G h → TX Θ a b (dockP V p) h → q ≠ a → q ≠ b → ¬ KC f v a ∧ ¬ KC f v b → (∀ i : Int, 0 ≤ i → i < n → G i = bnt V i p) → ∃ (a2 b2 : Nat) (h2 : mH) (G2 : Int → Int), P_W_arePositionsRight_90 Θ N K f q f4 w h (J (frm V p)) a (J p) = K h2 (J (frm V 60)) a2 ∧ WV Θ f o c v h2 V ∧ AI Θ q n G2 h2 ∧ (∀ i : Int, 0 ≤ i → i < n → G2 i = bnt V i 60) ∧ TX Θ a2 b2 (dockP V 60) h2 ∧ (¬ KC f v a2 ∧ ¬ KC f v b2) ∧ Nx Θ h h2 (fun x => x = q) (13 * r) (806 * r) := by
  intro r
  induction r with
  | zero =>
    intro p w a b h G hp hw wv ai t qa qb nk g
    obtain ⟨w, rfl⟩ : ∃ n', w = n' + 1 := ⟨w - 1, by omega⟩
    have : p = 60 := by omega
    subst this
    rw [E_W_arePositionsRight_90, B_W_arePositionsRight_90, if_pos (by rw [J_le] <;> omega)]
    exact ⟨a, b, h, G, rfl, wv, ai, g, t, nk, Nx.refl⟩
  | succ r ih =>
    intro p w a b h G hp hw wv ai t qa qb nk g
    obtain ⟨w, rfl⟩ : ∃ n', w = n' + 1 := ⟨w - 1, by omega⟩
    have I := wv.i
    have h4 := I.h4
    have e1 : ((p + 1 : Nat) : Int) = (p : Int) + 1 := by omega
    have wr := whoP_rng I c0 c1 (p := p)
    obtain ⟨h1, a1, a2, a3⟩ := b_pos hN wv (p := p) (by omega) (by omega)
    have ai1 := ai.nx a3 id
    have t1 := t.nx a3 id id
    obtain ⟨a5, h5, b1, b2, b3, b4⟩ := letter_go hN mi c0 c1 a2 t1 (by rw [dockP_len]; omega) (p := p) (by omega) (by omega)
    have ai5 := ai1.nx b4 id
    have w5 := a2.out b4 (fun _ x => x.elim)
    have qh : q < mwB Θ + h1.length := by
      have := ai1.1.2
      simp at this
      omega
    rw [← dockP_S] at b2
    obtain ⟨s, hs, es⟩ : ∃ s : Int, (s = 0 ∨ s = 1) ∧ s = if at' V p = -1 then 1 else 0 := ⟨_, by split <;> simp, rfl⟩
    obtain ⟨h6, G6, d1, d2, d3, d4, d5⟩ := blk_L (N := N) hN c0 c1 hq (f1 := J (frm V p) + J s) (f3 := a5) (f4 := f4) (p := p) (by omega) (by omega) (K := fun h45 => P_W_arePositionsRight_90 Θ N K f q f4 w h45 (J (frm V p) + J s) a5 (J p + J 1)) hn n 0 N h5 G (by omega) (by omega) w5 ai5
    have t6 := b2.nx d5 (fun e => by omega) (fun e => by omega)
    have x1 : Nx Θ h h5 (fun _ => False) (1 + 12) (6 + 800) := a3.trans b4
    have hk := a2.hi
    obtain ⟨a7, b7, h7, G7, u1, u2, u3, u4, u5, u7, u6⟩ := ih (p + 1) w a5 (a5 + 1) h6 G6 (by omega) (by omega) d2 d3 t6 (by omega) (by omega) ⟨fun k => by have := hk _ k; omega, fun k => by have := hk _ k; omega⟩ (fun i i0 i1 => by
      rw [d4 i i0 i1, if_pos (by omega), g i i0 i1]
      rfl)
    refine ⟨a7, b7, h7, G7, ?_, u2, u3, u4, u5, u7, ?_⟩
    · rw [E_W_arePositionsRight_90, B_W_arePositionsRight_90, if_neg (by rw [J_le] <;> omega), a1, bc_some, jn_eq]
      have key : (∀ F : mH → Int32 → Option ((Int32 ⊕ Nat) × mH), (if J (whoP V p) = J (-2004) then F h1 (J 1) else F h1 (J 0)) = F h1 (J s)) := fun F => by
        rcases wr with ⟨z, e⟩ | ⟨z, e, e0, e2⟩
        · rw [if_pos (by rw [e]), es, if_pos z]
        · rw [if_neg (by rw [J_eq] <;> omega), es, if_neg z]
      refine (key (fun (h13 : mH) (s14 : Int32) => (bc (P_W_told Θ N h13 s14) (fun v16 h15 => exq Θ N f h15 a (J p) (J (whoP V p)) (fun v29 h28 => (P_W_arePositionsRight_194 Θ N (fun h45 => (P_W_arePositionsRight_90 Θ N K f q f4 w h45 (J (frm V p) + v16) v29 (J p + (J 1)))) f (J (frm V p) + v16) q v29 f4 (J p) (J (whoP V p)) N h28 (J 0))))))).trans ?_
      rw [w_told hs, bc_some, b1]
      refine Eq.trans d1 ?_
      rw [J_add, J_add, ← e1, show frm V p + s = frm V (p + 1) by rw [es]; rfl]
      exact u1
    · have x2 : Nx Θ h h5 (fun x => x = q) 13 806 := x1.wid (fun _ _ p => p.elim) (by omega) (by omega)
      exact ((x2.trans d5).trans u6).up (by omega) (by omega)
theorem ben_L (hN : 2000 ≤ N) (c0 : 0 ≤ c) (c1 : c ≤ 2000) {f1 : Int32} {f3 : Nat} (hn : (n : Int) = V 4) (wv : WV Θ f o c v h V) (ai : AI Θ q n G h) (g : ∀ i : Int, 0 ≤ i → i < n → G i = bnt V i 60) {K : mH → Int32 → Option ((Int32 ⊕ Nat) × mH)} : ∀ (r k w : Nat), k + r = n → r < w → P_W_arePositionsRight_253 Θ N K f f1 q f3 w h (J 1) (J k) = K h (J 1) := by
  have I := wv.i
  have h4 := I.h4
  intro r
  induction r with
  | zero =>
    intro k w hk hw
    obtain ⟨w, rfl⟩ : ∃ n', w = n' + 1 := ⟨w - 1, by omega⟩
    rw [E_W_arePositionsRight_253, B_W_arePositionsRight_253, wv.O, g_count wv, bc_some, if_pos (by rw [J_le] <;> omega)]
  | succ r ih =>
    intro k w hk hw
    obtain ⟨w, rfl⟩ : ∃ n', w = n' + 1 := ⟨w - 1, by omega⟩
    have e1 : ((k + 1 : Nat) : Int) = (k : Int) + 1 := by omega
    have ir := id_rng I c0 c1 (k := k) (by omega) (by omega)
    have fo := fnd_of I (k := (k : Int)) (by omega) (by omega)
    have r1 : P_F_blocksBeneath Θ N h f (J (fd V k 0)) = some (.inl (J (bnt V k 60)), h) := by
      obtain ⟨S, rfl, so, wd⟩ := id wv
      rw [x_beneath (int_r) hN wd.k, fo, if_neg (by omega)]
    have r2 : P_F_blocksBeneathByBlocks Θ N h f (J (fd V k 0)) = some (.inl (J (bnt V k 60)), h) := by
      obtain ⟨S, rfl, so, wd⟩ := id wv
      rw [x_beneathB (int_r) hN wd.k, fo, if_neg (by omega)]
    have r3 : aR Θ h 0 q (J k) = some (J (bnt V k 60)) := by rw [ai.r (by omega) (by omega) (by omega), g k (by omega) (by omega)]
    rw [E_W_arePositionsRight_253, B_W_arePositionsRight_253, wv.O, g_count wv, bc_some, if_neg (by rw [J_le] <;> omega), wv.O, g_at wv (by omega) (by omega), bx_inl, jn_eq, jn_eq, if_neg (show ¬ J 1 = (0 : Int32) by decide), wv.O, r1, bx_inl, r3, bo_some, if_pos rfl, wv.O, r2, bx_inl, r3, bo_some, if_pos rfl]
    dsimp only
    rw [J_add, ← e1]
    exact ih (k + 1) w (by omega) (by omega)
theorem srch_L (hN : 2000 ≤ N) (c0 : 0 ≤ c) (c1 : c ≤ 2000) {f1 f4 : Int32} {f3 : Nat} {l : Int} (l1 : 1 ≤ l) (l2 : l ≤ 60) {K : mH → Int32 → Option ((Int32 ⊕ Nat) × mH)} : ∀ (r p w : Nat) (h : mH), p + r = 60 → r < w → WV Θ f o c v h V → ∃ h2, P_W_arePositionsRight_335 Θ N K f f1 f3 f4 (J l) w h (J (-2004)) (J (rn V p)) (J p) = K h2 (J (lgp V l r p)) ∧ WV Θ f o c v h2 V ∧ Nx Θ h h2 (fun _ => False) r (6 * r) := by
  intro r
  induction r with
  | zero =>
    intro p w h hp hw wv
    obtain ⟨w, rfl⟩ : ∃ n', w = n' + 1 := ⟨w - 1, by omega⟩
    rw [E_W_arePositionsRight_335, B_W_arePositionsRight_335, if_pos (by rw [J_le] <;> omega)]
    exact ⟨h, rfl, wv, Nx.refl⟩
  | succ r ih =>
    intro p w h hp hw wv
    obtain ⟨w, rfl⟩ : ∃ n', w = n' + 1 := ⟨w - 1, by omega⟩
    have I := wv.i
    have e1 : ((p + 1 : Nat) : Int) = (p : Int) + 1 := by omega
    have wr := whoP_rng I c0 c1 (p := p)
    have rr := rn_0 (V := V) p
    have rr2 := rn_0 (V := V) (p + 1)
    obtain ⟨h1, a1, a2, a3⟩ := b_pos hN wv (p := p) (by omega) (by omega)
    have key : (∀ F : mH → Int32 → Option ((Int32 ⊕ Nat) × mH), jn F (fun j80 => if J (whoP V p) = J (-2004) then j80 h1 (J (rn V p) + J 1) else j80 h1 (J 0)) = F h1 (J (rn V (p + 1)))) := fun F => by
      rw [jn_eq]
      rcases wr with ⟨z, e⟩ | ⟨z, e, e0, e2⟩
      · rw [if_pos (by rw [e]), J_add, rn, if_pos z]
      · rw [if_neg (by rw [J_eq] <;> omega), rn, if_neg z]
    rw [E_W_arePositionsRight_335, B_W_arePositionsRight_335, if_neg (by rw [J_le] <;> omega), if_neg (show ¬ 0 ≤ J (-2004) by decide), a1, bc_some, key]
    rw [jn_eq, lgp]
    by_cases z : rn V (p + 1) = l
    · rw [if_pos z, if_pos (by rw [z])]
      dsimp only
      obtain ⟨w, rfl⟩ : ∃ n', w = n' + 1 := ⟨w - 1, by omega⟩
      rw [J_sub, J_add, J_add, E_W_arePositionsRight_335, B_W_arePositionsRight_335]
      refine ⟨h1, ?_, a2, a3.wid (fun _ _ q => q) (by omega) (by omega)⟩
      by_cases z2 : p + 1 = 60
      · rw [if_pos (by rw [J_le] <;> omega)]
      · rw [if_neg (by rw [J_le] <;> omega), if_pos (by rw [J_0le] <;> omega)]
    · rw [if_neg z, if_neg (by rw [J_eq] <;> omega)]
      dsimp only
      obtain ⟨h2, b1, b2, b3⟩ := ih (p + 1) w h1 (by omega) (by omega) a2
      rw [J_add, ← e1]
      exact ⟨h2, b1, b2, (a3.trans b3).up (by omega) (by omega)⟩
theorem b_gaps (hN : 2000 ≤ N) (wv : WV Θ f o c v h V) {l : Int} (l1 : 1 ≤ l) (l2 : l ≤ 60) : (∃ h2, P_W_ask Θ N h f (J 8) (J l) = some (J (lgp V l 60 0), h2) ∧ WV Θ f o c v h2 V ∧ Nx Θ h h2 (fun _ => False) 1 6) ∧ (∃ h2, P_W_ask Θ N h f (J 9) (J l) = some (J (lgp V l 60 0), h2) ∧ WV Θ f o c v h2 V ∧ Nx Θ h h2 (fun _ => False) 1 6) := by
  have wx := wv.ex (n := 10)
  obtain ⟨S, rfl, so, wd⟩ := id wv
  rw [a_gap1 wd hN (int_r), a_gap2 wd hN (int_r), if_pos ⟨l1, l2⟩, lgp_gpf l1 l2]
  by_cases z : gpf (S 1) l (62 - l).toNat 0 = -1
  · simp only [if_pos z]
    exact ⟨⟨_, rfl, wx, Nx.ex⟩, ⟨_, rfl, wx, Nx.ex⟩⟩
  · simp only [if_neg z]
    exact ⟨⟨_, rfl, wv, Nx.refl.up (by omega) (by omega)⟩, ⟨_, rfl, wv, Nx.refl.up (by omega) (by omega)⟩⟩
theorem lens_L (hN : 2000 ≤ N) (c0 : 0 ≤ c) (c1 : c ≤ 2000) {f1 : Int32} {f3 : Nat} {K : mH → Int32 → Option ((Int32 ⊕ Nat) × mH)} : ∀ (r l w : Nat) (h : mH), l + r = 61 → 1 ≤ l → r < w → WV Θ f o c v h V → ∃ h2, P_W_arePositionsRight_317 Θ N K f f1 f3 w h (J 1) (J l) = K h2 (J 1) ∧ WV Θ f o c v h2 V ∧ Nx Θ h h2 (fun _ => False) (62 * r) (372 * r) := by
  intro r
  induction r with
  | zero =>
    intro l w h hp hl hw wv
    obtain ⟨w, rfl⟩ : ∃ n', w = n' + 1 := ⟨w - 1, by omega⟩
    rw [E_W_arePositionsRight_317, B_W_arePositionsRight_317, if_pos (by rw [J_le] <;> omega)]
    exact ⟨h, rfl, wv, Nx.refl⟩
  | succ r ih =>
    intro l w h hp hl hw wv
    obtain ⟨w, rfl⟩ : ∃ n', w = n' + 1 := ⟨w - 1, by omega⟩
    have e1 : ((l + 1 : Nat) : Int) = (l : Int) + 1 := by omega
    rw [E_W_arePositionsRight_317, B_W_arePositionsRight_317, if_neg (by rw [J_le] <;> omega)]
    obtain ⟨h1, a1, a2, a3⟩ := srch_L (N := N) hN c0 c1 (f1 := f1) (f4 := J 1) (f3 := f3) (l := l) (by omega) (by omega) (K := fun h86 u87 => (jn (fun (h89 : mH) (s90 : Int32) => (P_W_arePositionsRight_317 Θ N K f f1 f3 w h89 s90 (J l + (J 1)))) (fun j88 => (jn (fun (h92 : mH) => (j88 h92 (J 0))) (fun j91 => (if J 1 = 0 then (j91 h86) else (bc (P_W_ask Θ N h86 f (J 8) (J l)) (fun v94 h93 => (if v94 = u87 then (bc (P_W_ask Θ N h93 f (J 9) (J l)) (fun v96 h95 => (if v96 = u87 then (j88 h95 (J 1)) else (j91 h95)))) else (j91 h93)))))))))) 60 0 N h (by omega) (by omega) wv
    obtain ⟨h2, b1, b2, b3⟩ := (b_gaps hN a2 (l := l) (by omega) (by omega)).1
    obtain ⟨h3, d1, d2, d3⟩ := (b_gaps hN b2 (l := l) (by omega) (by omega)).2
    obtain ⟨h4, u1, u2, u3⟩ := ih (l + 1) w h3 (by omega) (by omega) (by omega) d2
    refine ⟨h4, ?_, u2, (((a3.trans b3).trans d3).trans u3).up (by omega) (by omega)⟩
    refine Eq.trans a1 ?_
    rw [jn_eq, jn_eq, if_neg (show ¬ J 1 = (0 : Int32) by decide), b1, bc_some, if_pos rfl, d1, bc_some, if_pos rfl]
    dsimp only
    rw [J_add, ← e1]
    exact u1
theorem b_out (hN : 2000 ≤ N) (wv : WV Θ f o c v h V) : (P_W_ask Θ N h f (J 6) (J 60) = some (J (-2003), h ++ [oB 11 []])) ∧ (P_W_ask Θ N h f (J 7) (J (-1)) = some (J (-2003), h ++ [oB 11 []])) ∧ (P_W_ask Θ N h f (J 8) (J 0) = some (J (-2003), h ++ [oB 11 []])) ∧ (P_W_ask Θ N h f (J 8) (J 61) = some (J (-2003), h ++ [oB 11 []])) ∧ (P_W_ask Θ N h f (J 9) (J 61) = some (J (-2003), h ++ [oB 11 []])) := by
  obtain ⟨S, rfl, so, wd⟩ := id wv
  rw [a_blk wd hN (int_r), a_pos wd hN (int_r), a_gap1 wd hN (int_r), a_gap1 wd hN (int_r), a_gap2 wd hN (int_r), if_neg (by omega), if_neg (by omega), if_neg (by omega), if_neg (by omega)]
  exact ⟨rfl, rfl, rfl, rfl, rfl⟩
theorem w_positions (hN : 2000 ≤ N) (mi : mI9 Θ) (c0 : 0 ≤ c) (c1 : c ≤ 2000) (wv : WV Θ f o c v h V) : ∃ v2 h2, P_W_arePositionsRight Θ N h f = some (.inl (J 1), h2) ∧ WV Θ f o c v2 h2 V ∧ FR Θ f v v2 h h2 4600 80000 := by
  have I := wv.i
  have h4 := I.h4
  obtain ⟨n, hn⟩ : ∃ n : Nat, (n : Int) = V 4 := ⟨(V 4).toNat, by omega⟩
  obtain ⟨m1, m2, m3⟩ := ai_new (Θ := Θ) (h := h) (n := n) (by omega)
  have qk : ¬ KC f v (mwB Θ + h.length) := fun k => by have := wv.hi _ k; omega
  have w1 := wv.out m3 (fun _ x => x.elim)
  obtain ⟨o1, -⟩ := b_out hN w1
  have w2 := w1.ex (n := 11)
  obtain ⟨-, o2, -⟩ := b_out hN w2
  have w3 := w2.ex (n := 11)
  obtain ⟨-, -, o3, -⟩ := b_out hN w3
  have w4 := w3.ex (n := 11)
  obtain ⟨-, -, -, o4, -⟩ := b_out hN w4
  have w5 := w4.ex (n := 11)
  obtain ⟨-, -, -, -, o5⟩ := b_out hN w5
  have w6 := w5.ex (n := 11)
  have xx := ((((Nx.ex (Θ := Θ) (h := h ++ [aI 0 n (fun _ => 0)]) (P := fun _ => False) (n := 11)).trans (Nx.ex (n := 11))).trans (Nx.ex (n := 11))).trans (Nx.ex (n := 11))).trans (Nx.ex (n := 11))
  have ai6 := m2.nx xx id
  have t0 : TX Θ (mwad Θ 90) (mwad Θ 110) (dockP V 0) (h ++ [aI 0 n (fun _ => 0)] ++ [oB 11 []] ++ [oB 11 []] ++ [oB 11 []] ++ [oB 11 []] ++ [oB 11 []]) := Or.inl ⟨0, by omega, rfl, rfl, rfl⟩
  have lo := mi.2.2 0 (by omega)
  rw [Nat.add_zero, Nat.add_zero] at lo
  obtain ⟨a7, b7, h7, G7, e1, e2, e3, e4, e5, e7, e6⟩ := met_L (N := N) hN mi c0 c1 qk (f4 := J 1) hn (K := fun h58 u59 u60 => (P_W_arePositionsRight_253 Θ N (fun h76 u77 => (P_W_arePositionsRight_317 Θ N (fun h97 u98 => (if u98 = 0 then (some (.inl (J 0), h97)) else (gO Θ h97 0 f (bc (P_F_freeMetres Θ N h97 f) (fun v100 h99 => (if v100 = u59 then (gO Θ h99 0 f (bc (P_F_takenShare Θ N h99 f) (fun v102 h101 => (if (FP.fdiv (FP.i2f ((J 60) - u59)) (1114636288 : UInt32)) &&& 0x7fffffff ≤ 0x7f800000 then (if (Op.cmpValue (FP.fcmp v102 (FP.fdiv (FP.i2f ((J 60) - u59)) (1114636288 : UInt32))) .l) = 0 then (gO Θ h101 0 f (bc (P_F_describeDock Θ N h101 f) (fun v104 h103 => (bx (P_W_isLine Θ N h103 f v104 u60) (fun v106 h105 => (if v106 = 0 then (some (.inl (J 0), h105)) else (some (.inl (J 1), h105)))) (fun n9 h9 => xp n9 h9))))) else (some (.inl (J 0), h101))) else none)))) else (some (.inl (J 0), h99)))))))) f u59 u60 N h76 u77 (J 1))) f u59 (mwB Θ + h.length) u60 N h58 (J 1) (J 0))) 60 0 N (mwad Θ 90) (mwad Θ 110) _ (fun _ => 0) (by omega) (by omega) w6 ai6 t0 (by omega) (by omega) ⟨fun k => by have := wv.hi _ k; omega, fun k => by have := wv.hi _ k; omega⟩ (fun _ _ _ => rfl)
  have b1 := ben_L (N := N) hN c0 c1 (f1 := J (frm V 60)) (f3 := a7) hn e2 e3 e4 (K := fun h76 u77 => (P_W_arePositionsRight_317 Θ N (fun h97 u98 => (if u98 = 0 then (some (.inl (J 0), h97)) else (gO Θ h97 0 f (bc (P_F_freeMetres Θ N h97 f) (fun v100 h99 => (if v100 = J (frm V 60) then (gO Θ h99 0 f (bc (P_F_takenShare Θ N h99 f) (fun v102 h101 => (if (FP.fdiv (FP.i2f ((J 60) - J (frm V 60))) (1114636288 : UInt32)) &&& 0x7fffffff ≤ 0x7f800000 then (if (Op.cmpValue (FP.fcmp v102 (FP.fdiv (FP.i2f ((J 60) - J (frm V 60))) (1114636288 : UInt32))) .l) = 0 then (gO Θ h101 0 f (bc (P_F_describeDock Θ N h101 f) (fun v104 h103 => (bx (P_W_isLine Θ N h103 f v104 a7) (fun v106 h105 => (if v106 = 0 then (some (.inl (J 0), h105)) else (some (.inl (J 1), h105)))) (fun n9 h9 => xp n9 h9))))) else (some (.inl (J 0), h101))) else none)))) else (some (.inl (J 0), h99)))))))) f (J (frm V 60)) a7 N h76 u77 (J 1))) n 0 N (by omega) (by omega)
  obtain ⟨h8, d1, d2, d3⟩ := lens_L (N := N) hN c0 c1 (f1 := J (frm V 60)) (f3 := a7) (K := fun h97 u98 => (if u98 = 0 then (some (.inl (J 0), h97)) else (gO Θ h97 0 f (bc (P_F_freeMetres Θ N h97 f) (fun v100 h99 => (if v100 = J (frm V 60) then (gO Θ h99 0 f (bc (P_F_takenShare Θ N h99 f) (fun v102 h101 => (if (FP.fdiv (FP.i2f ((J 60) - J (frm V 60))) (1114636288 : UInt32)) &&& 0x7fffffff ≤ 0x7f800000 then (if (Op.cmpValue (FP.fcmp v102 (FP.fdiv (FP.i2f ((J 60) - J (frm V 60))) (1114636288 : UInt32))) .l) = 0 then (gO Θ h101 0 f (bc (P_F_describeDock Θ N h101 f) (fun v104 h103 => (bx (P_W_isLine Θ N h103 f v104 a7) (fun v106 h105 => (if v106 = 0 then (some (.inl (J 0), h105)) else (some (.inl (J 1), h105)))) (fun n9 h9 => xp n9 h9))))) else (some (.inl (J 0), h101))) else none)))) else (some (.inl (J 0), h99)))))))) 60 1 N h7 (by omega) (by omega) (by omega) e2
  have fm : P_F_freeMetres Θ N h8 f = some (J (frm V 60), h8) := by
    obtain ⟨S, rfl, so, wd⟩ := id d2
    exact x_freeMetres hN wd.k
  have ts : P_F_takenShare Θ N h8 f = some (FP.fdiv (FP.i2f (J (60 - frm V 60))) 1114636288, h8) := by
    obtain ⟨S, rfl, so, wd⟩ := id d2
    exact x_share hN wd.k
  have e58 := e5.nx d3 id id
  obtain ⟨v9, h9, k1, k2, k3, k4⟩ := x_dock (N := N) hN c0 c1 d2
  have t9 := e58.nx k4.1 e7.1 e7.2
  have il : P_W_isLine Θ N h9 f (J 60) a7 = some (.inl (J 1), h9) := by
    obtain ⟨S, rfl, so, wd⟩ := id k2
    have := w_isLine (N := N) hN mi wd.k k3 t9 (by rw [dockL_len]; omega)
    rw [dockL_len] at this
    exact this
  refine ⟨v9, h9, ?_, k2, ?_⟩
  · unfold P_W_arePositionsRight
    rw [wv.O, g_count wv, bc_some, ← hn, m1, o1, bc_some, jn_eq, jn_eq, if_pos rfl, o2, bc_some, if_pos rfl, o3, bc_some, if_pos rfl, o4, bc_some, if_pos rfl, o5, bc_some, if_pos rfl]
    refine Eq.trans e1 ?_
    refine Eq.trans b1 ?_
    refine Eq.trans d1 ?_
    rw [if_neg (show ¬ J 1 = (0 : Int32) by decide), d2.O, fm, bc_some, if_pos rfl, d2.O, ts, bc_some, J_sub, if_pos (vn32 ff_nn), if_pos (fcmp_z ff_nn), d2.O, k1, bc_some, il, bx_inl, if_neg (show ¬ J 1 = (0 : Int32) by decide)]
  · have x7 := ((m3.trans xx).new0 e6 (fun x e => by omega)).trans d3
    exact ((FR.of (f := f) (v := v) x7 (fun _ q => q.elim)).trans k4).up (by omega) (by omega)
end PO
