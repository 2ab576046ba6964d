/-! positions: what the law asks of them -/
/-- letters of the first metres -/
def dockP (V : Int → Int) (p : Nat) : List Int := (List.range p).map (fun (i : Nat) => sgn V i)
theorem dockP_len {V : Int → Int} {p : Nat} : (dockP V p).length = p := by unfold dockP; simp
theorem dockP_S {V : Int → Int} {p : Nat} : dockP V (p + 1) = dockP V p ++ [sgn V p] := by
  unfold dockP
  rw [List.range_succ, List.map_append]
  rfl
/-- who is told to be at a metre -/
def whoP (V : Int → Int) (p : Int) : Int := if at' V p = -1 then -2004 else fd V (at' V p) 0
def tkP (V : Int → Int) (p i : Int) : Int := if at' V p = i then V (80 + p) else 0
section PS
variable {Θ : mW} {o : Option (Int → Int)} {N f q v a b n : Nat} {c c2 : Int} {l l2 : List Int} {h h0 h1 h2 : mH} {S S2 : Nat → Int → Int} {V G : Int → Int} {P : Nat → Prop} {y z y2 z2 : Nat}
theorem WV.hi (w : WV Θ f o c v h V) : ∀ x, KC f v x → mwB Θ ≤ x ∧ x < mwB Θ + h.length := by
  obtain ⟨S, -, -, wk, ⟨G, w2⟩, ⟨n, β, w3⟩, w4⟩ := w
  have z := zw_sb w3
  obtain ⟨a, b, r, x, F, E, Q, k1, -⟩ := wk
  have l1 := k1.1.1.1
  intro x hx
  rcases hx with hx | rfl <;> omega
/-- a new row of ints -/
theorem ai_new (hn : n ≤ 1000) : (∀ {ρ : Type} (F : Nat → mH → Option ρ), ala Θ h 4 (J n) (fun n => .inl (0, n, .inl (fun _ => 0))) F = F (mwB Θ + h.length) (h ++ [aI 0 n (fun _ => 0)])) ∧ AI Θ (mwB Θ + h.length) n (fun _ => 0) (h ++ [aI 0 n (fun _ => 0)]) ∧ Nx Θ h (h ++ [aI 0 n (fun _ => 0)]) (fun _ => False) 1 n := by
  have hk : (J (n : Int)).toNatClampNeg = n := by rw [J_nat (by omega) (by omega)]; omega
  refine ⟨fun F => ?_, ?_, Nx.app⟩
  · unfold ala al
    rw [hk, if_pos ⟨by rw [J_lt0] <;> omega, by omega⟩]
  · refine HB.of ⟨by omega, by simp; omega⟩ (fun i s hi => ?_)
    obtain rfl : i = 0 := by
      have := (List.getElem?_eq_some_iff.mp hi).1
      simp at this
      exact this
    cases hi
    rw [Nat.add_zero]
    exact gt_new
theorem g_blk (hN : 2000 ≤ N) (w : WV Θ f o c v h V) {p : Int} (p0 : 0 ≤ p) (p1 : p < 60) : P_F_hasBlock Θ N h f (J p) = some (.inl (J (if V (80 + p) = 1 then 1 else 0)), h) := by
  obtain ⟨S, rfl, so, w⟩ := w
  rw [x_hasBlock (int_r) hN w.k, if_pos (by omega)]
theorem b_pos (hN : 2000 ≤ N) (w : WV Θ f o c v h V) {p : Int} (p0 : 0 ≤ p) (p1 : p < 60) : ∃ h2, P_W_ask Θ N h f (J 7) (J p) = some (J (whoP V p), h2) ∧ WV Θ f o c v h2 V ∧ Nx Θ h h2 (fun _ => False) 1 6 := by
  have wx := w.ex (n := 10)
  obtain ⟨S, rfl, so, wd⟩ := id w
  rw [a_pos wd hN (int_r), if_pos (by omega)]
  unfold whoP
  by_cases z : at' (S 1) p = -1
  · rw [if_pos z, if_pos z]
    exact ⟨_, rfl, wx, Nx.ex⟩
  · rw [if_neg z, if_neg z]
    exact ⟨_, rfl, w, Nx.refl.up (by omega) (by omega)⟩
theorem whoP_rng (I : In c V) (c0 : 0 ≤ c) (c1 : c ≤ 2000) {p : Int} : (at' V p = -1 ∧ whoP V p = -2004) ∨ (at' V p ≠ -1 ∧ whoP V p = fd V (at' V p) 0 ∧ 0 ≤ whoP V p ∧ whoP V p < 100000) := by
  unfold whoP
  by_cases z : at' V p = -1
  · rw [if_pos z]
    exact Or.inl ⟨z, rfl⟩
  · rw [if_neg z]
    have al := atk_le I (p := p)
    have ir := id_rng I c0 c1 (k := at' V p) (by omega) (by omega)
    exact Or.inr ⟨z, rfl, ir.1, ir.2⟩
theorem tkP_is (I : In c V) {p i : Int} (p0 : 0 ≤ p) (p1 : p < 60) (i0 : 0 ≤ i) (i1 : i < V 4) : tkP V p i = if V (80 + p) = 1 ∧ fd V i 0 = whoP V p then 1 else 0 := by
  have bl := I.bl p p0 p1
  have si := I.sh i i0 i1
  unfold shOK at si
  unfold tkP whoP
  by_cases z : at' V p = i
  · rw [if_pos z, if_neg (show ¬ at' V p = -1 by omega), z]
    by_cases b1 : V (80 + p) = 1
    · rw [if_pos ⟨b1, rfl⟩, b1]
    · rw [if_neg (fun q => b1 q.1)]; omega
  · rw [if_neg z]
    have al := atk_le I (p := p)
    rw [if_neg]
    rintro ⟨-, e⟩
    by_cases z1 : at' V p = -1
    · rw [if_pos z1] at e; omega
    · rw [if_neg z1] at e
      exact z (id_uniq I (by omega) (by omega) i0 i1 e.symm)
/-- the ships' blocks at one metre -/
theorem blk_L (hN : 2000 ≤ N) (c0 : 0 ≤ c) (c1 : c ≤ 2000) (hq : ¬ KC f v q) {f1 : Int32} {f3 : Nat} {f4 : Int32} {p : Int} (p0 : 0 ≤ p) (p1 : p < 60) {K : mH → Option ((Int32 ⊕ Nat) × mH)} (hn : (n : Int) = V 4) : ∀ (r k w : Nat) (h : mH) (G : Int → Int), k + r = n → r < w → WV Θ f o c v h V → AI Θ q n G h → ∃ h2 G2, P_W_arePositionsRight_194 Θ N K f f1 q f3 f4 (J p) (J (whoP V p)) w h (J k) = K h2 ∧ WV Θ f o c v h2 V ∧ AI Θ q n G2 h2 ∧ (∀ i : Int, 0 ≤ i → i < n → G2 i = if (k : Int) ≤ i then G i + tkP V p i else G i) ∧ Nx Θ h h2 (fun x => x = q) 0 0 := by
  intro r
  induction r with
  | zero =>
    intro k w h G hk hw wv ai
    obtain ⟨w, rfl⟩ : ∃ n', w = n' + 1 := ⟨w - 1, by omega⟩
    have h4 := wv.i.h4
    rw [E_W_arePositionsRight_194, B_W_arePositionsRight_194, wv.O, g_count wv, bc_some, if_pos (by rw [J_le] <;> omega)]
    exact ⟨h, G, rfl, wv, ai, fun i i0 i1 => by rw [if_neg (by omega)], Nx.refl⟩
  | succ r ih =>
    intro k w h G hk hw wv ai
    obtain ⟨w, rfl⟩ : ∃ n', w = n' + 1 := ⟨w - 1, by omega⟩
    have I := wv.i
    have h4 := I.h4
    have e1 : ((k + 1 : Nat) : Int) = (k : Int) + 1 := by omega
    have ir := id_rng I c0 c1 (k := k) (by omega) (by omega)
    have wr := whoP_rng I c0 c1 (p := p)
    have tk := tkP_is I p0 p1 (i := k) (by omega) (by omega)
    obtain ⟨h3, a1, a2, a3⟩ := ai.w (by omega) (x := k) (v := G k + tkP V p k) (by omega) (by omega)
    have w3 := wv.out a3 (fun x e => by rw [e]; exact hq)
    obtain ⟨h4', G2, b1, b2, b3, b4, b5⟩ := ih (k + 1) w h3 _ (by omega) (by omega) w3 a2
    have fin : ∃ h2 G2, P_W_arePositionsRight_194 Θ N K f f1 q f3 f4 (J p) (J (whoP V p)) w h3 (J ((k : Int) + 1)) = K h2 ∧ WV Θ f o c v h2 V ∧ AI Θ q n G2 h2 ∧ (∀ i : Int, 0 ≤ i → i < n → G2 i = if (k : Int) ≤ i then G i + tkP V p i else G i) ∧ Nx Θ h h2 (fun x => x = q) 0 0 := by
      refine ⟨h4', G2, by rw [← e1]; exact b1, b2, b3, fun i i0 i1 => ?_, (a3.trans b5)⟩
      rw [b4 i i0 i1]
      by_cases z : i = k
      · rw [z, if_neg (by omega), if_pos (by omega), up1_eq]
      · rw [up1_nj z]
        by_cases z2 : (k : Int) ≤ i
        · rw [if_pos (by omega), if_pos z2]
        · rw [if_neg (by omega), if_neg z2]
    rw [E_W_arePositionsRight_194, B_W_arePositionsRight_194, wv.O, g_count wv, bc_some, if_neg (by rw [J_le] <;> omega), ai.r (by omega) (by omega) (by omega), bo_some, wv.O, g_blk hN wv p0 p1, bx_inl, jn_eq, jn_eq]
    by_cases zb : V (80 + p) = 1
    · rw [if_pos zb, if_neg (show ¬ J 1 = (0 : Int32) by decide), wv.O, g_at wv (by omega) (by omega), bx_inl]
      by_cases ze : fd V k 0 = whoP V p
      · rw [if_pos ⟨zb, ze⟩] at tk
        rw [tk] at a1
        rw [if_pos (by rw [ze])]
        dsimp only
        rw [w_told (Or.inr rfl), bc_some, J_add, a1, bo_some, J_add]
        exact fin
      · rw [if_neg (fun q => ze q.2)] at tk
        rw [tk] at a1
        rw [if_neg (by rw [J_eq] <;> omega)]
        dsimp only
        rw [w_told (Or.inl rfl), bc_some, J_add, a1, bo_some, J_add]
        exact fin
    · rw [if_neg (fun q => zb q.1)] at tk
      rw [tk] at a1
      rw [if_neg zb, if_pos (show J 0 = (0 : Int32) from rfl)]
      dsimp only
      rw [w_told (Or.inl rfl), bc_some, J_add, a1, bo_some, J_add]
      exact fin
theorem BL.nx {q9 : Nat} (s : BL Θ h0 q9 v l y z h) (x : Nx Θ h h2 (fun _ => False) y2 z2) : BL Θ h0 q9 v l (y + y2) (z + z2) h2 := by
  obtain ⟨⟨β, s1, s2⟩, s3, s4⟩ := s
  exact ⟨⟨β, sb_nx s1 x id id, s2⟩, s3, s4.trans x⟩
/-- a letter more -/
noncomputable def exq (Θ : mW) (N f : Nat) (h15 : mH) (v3 : Nat) (v5 v11 : Int32) (F : Nat → mH → Option ((Int32 ⊕ Nat) × mH)) : Option ((Int32 ⊕ Nat) × mH) := (al Θ h15 (oB 8 [.null, .int 0, .int 0, .int 0]) (fun q17 h18 => (bc (P_SB_init Θ N h18 q17) (fun v20 h19 => (gO Θ h19 8 q17 (bc (P_SB_append_o Θ N h19 q17 v3) (fun v22 h21 => (jn (fun (h24 : mH) (s25 : Nat) => (gO Θ h24 8 v22 (bc (P_SB_append_o Θ N h24 v22 s25) (fun v27 h26 => (gO Θ h26 8 v27 (bc (P_SB_toString Θ N h26 v27) (fun v29 h28 => F v29 h28))))))) (fun j23 => (if v11 < 0 then (gO Θ h21 0 f (bx (P_F_hasBlock Θ N h21 f v5) (fun v47 h46 => (if v47 = 0 then (j23 h46 (mwad Θ 92)) else (j23 h46 (mwad Θ 91)))) (fun n9 h9 => xp n9 h9))) else (al Θ h21 (oB 8 [.null, .int 0, .int 0, .int 0]) (fun q48 h49 => (bc (P_SB_init Θ N h49 q48) (fun v51 h50 => (gO Θ h50 8 q48 (bc (P_SB_append_o Θ N h50 q48 (mwad Θ 90)) (fun v53 h52 => (gO Θ h52 8 v53 (bc (P_SB_append_I Θ N h52 v53 (v11 - v11 / (J 10) * (J 10))) (fun v55 h54 => (gO Θ h54 8 v55 (bc (P_SB_toString Θ N h54 v55) (fun v57 h56 => (j23 h56 v57))))))))))))))))))))))))
theorem dgl_1 {x : Int} (h0 : 0 ≤ x) (h1 : x < 10) : dgl x = [48 + x] := by
  unfold dgl
  rw [nd_1 h1]
  show [dg x (1 - 1 - 0)] = _
  rw [dg]
  congr 1
  omega
theorem al_eq {ρ : Type} {e : mE} (F : Nat → mH → Option ρ) : al Θ h e F = F (mwB Θ + h.length) (h ++ [e]) := rfl
theorem letter_go (hN : 2000 ≤ N) (mi : mI9 Θ) (c0 : 0 ≤ c) (c1 : c ≤ 2000) (wv : WV Θ f o c v h V) (t : TX Θ a b l h) (hl : l.length ≤ 59) {p : Int} (p0 : 0 ≤ p) (p1 : p < 60) : ∃ a2 h2, (∀ F, exq Θ N f h a (J p) (J (whoP V p)) F = F a2 h2) ∧ TX Θ a2 (a2 + 1) (l ++ [sgn V p]) h2 ∧ mwB Θ + h.length ≤ a2 ∧ Nx Θ h h2 (fun _ => False) 12 800 := by
  have I := wv.i
  obtain ⟨h1, s1, s2⟩ := sb_new (Θ := Θ) (N := N) (h := h)
  have t1 : TX Θ a b l h1 := t.nx s2.2.2 id id
  obtain ⟨v2, h2, u1, u2⟩ := bl_T (N := N) mi s2 t1 (by simp; omega)
  rw [List.nil_append] at u2
  have w2 : WV Θ f o c v h2 V := wv.out u2.2.2 (fun _ x => x.elim)
  have ss : ∃ (a3 b3 : Nat) (h3 : mH), (∀ j23 : mH → Nat → Option ((Int32 ⊕ Nat) × mH), (if J (whoP V p) < 0 then (gO Θ h2 0 f (bx (P_F_hasBlock Θ N h2 f (J p)) (fun v47 h46 => (if v47 = 0 then (j23 h46 (mwad Θ 92)) else (j23 h46 (mwad Θ 91)))) (fun n9 h9 => xp n9 h9))) else (al Θ h2 (oB 8 [.null, .int 0, .int 0, .int 0]) (fun q48 h49 => (bc (P_SB_init Θ N h49 q48) (fun v51 h50 => (gO Θ h50 8 q48 (bc (P_SB_append_o Θ N h50 q48 (mwad Θ 90)) (fun v53 h52 => (gO Θ h52 8 v53 (bc (P_SB_append_I Θ N h52 v53 (J (whoP V p) - J (whoP V p) / (J 10) * (J 10))) (fun v55 h54 => (gO Θ h54 8 v55 (bc (P_SB_toString Θ N h54 v55) (fun v57 h56 => (j23 h56 v57))))))))))))))) = j23 h3 a3) ∧ TX Θ a3 b3 [sgn V p] h3 ∧ Nx Θ h2 h3 (fun _ => False) 6 366 := by
    rcases whoP_rng I c0 c1 (p := p) with ⟨z, e⟩ | ⟨z, e, e0, e1⟩
    · have sg : sgn V p = if V (80 + p) = 1 then 94 else 46 := by unfold sgn; rw [if_pos z]
      by_cases zb : V (80 + p) = 1
      · refine ⟨mwad Θ 91, mwad Θ 111, h2, fun j23 => ?_, Or.inl ⟨1, by omega, rfl, rfl, by rw [sg, if_pos zb]; rfl⟩, Nx.refl.up (by omega) (by omega)⟩
        rw [e, if_pos (by decide), w2.O, g_blk hN w2 p0 p1, if_pos zb, bx_inl, if_neg (show ¬ J 1 = (0 : Int32) by decide)]
      · refine ⟨mwad Θ 92, mwad Θ 112, h2, fun j23 => ?_, Or.inl ⟨2, by omega, rfl, rfl, by rw [sg, if_neg zb]; rfl⟩, Nx.refl.up (by omega) (by omega)⟩
        rw [e, if_pos (by decide), w2.O, g_blk hN w2 p0 p1, if_neg zb, bx_inl, if_pos (show J 0 = (0 : Int32) from rfl)]
    · have sg : sgn V p = 48 + whoP V p % 10 := by unfold sgn; rw [if_neg z, e]
      obtain ⟨g1, k1, k2⟩ := sb_new (Θ := Θ) (N := N) (h := h2)
      obtain ⟨v3, g2, k3, k4⟩ := bl_T (N := N) (a := mwad Θ 90) (b := mwad Θ 110) (l2 := lLt 0) mi k2 (Or.inl ⟨0, by omega, rfl, rfl, rfl⟩) (by decide)
      obtain ⟨v4, g3, k5, k6⟩ := bl_I (N := N) hN k4 (x := whoP V p % 10) (by omega) (by omega) (by decide)
      obtain ⟨g4, k7, k8, k9⟩ := bl_end (N := N) k6 (by
        rw [List.length_append, dgl_len, nd_1 (by omega)]
        decide)
      have el : [] ++ lLt 0 ++ dgl (whoP V p % 10) = [sgn V p] := by
        rw [dgl_1 (by omega) (by omega), sg]
        rfl
      rw [el] at k8
      refine ⟨_, _, g4, fun j23 => ?_, k8, k9.up (by omega) (by omega)⟩
      rw [if_neg (by rw [J_lt0] <;> omega)]
      unfold al
      dsimp only
      rw [k1, bc_some, k2.O, k3, bc_some, k4.O, J_rem10 e0 (by omega), k5, bc_some, k6.O, k7, bc_some]
  obtain ⟨a3, b3, h3, x1, x2, x3⟩ := ss
  have u3 := u2.nx x3
  obtain ⟨v5, h4, y1, y2⟩ := bl_T (N := N) mi u3 x2 (by simp; omega)
  obtain ⟨h5, y3, y4, y5⟩ := bl_end (N := N) y2 (by simp; omega)
  refine ⟨_, h5, fun F => ?_, y4, by have := y2.2.2.1.1; omega, y5.up (by omega) (by omega)⟩
  unfold exq
  rw [al_eq]
  rw [s1, bc_some, s2.O, u1, bc_some, jn_eq]
  refine (x1 (fun h24 s25 => (gO Θ h24 8 (mwB Θ + h.length) (bc (P_SB_append_o Θ N h24 (mwB Θ + h.length) s25) (fun v27 h26 => (gO Θ h26 8 v27 (bc (P_SB_toString Θ N h26 v27) (fun v29 h28 => F v29 h28)))))))).trans ?_
  rw [u3.O, y1, bc_some, y2.O, y3, bc_some]
end PS
