/-! the line of a bill -/
def dmgL (V : Int → Int) (w : Int) : List Int := if fd V w 6 = 0 then [] else [33] ++ dgl (fd V w 6)
def sgnL (V : Int → Int) (w : Int) : List Int := if fd V w 4 = -1 then [] else [if fd V w 2 ≤ V 1 then 126 else 95]
def billL (V : Int → Int) (w : Int) : List Int := [35] ++ dgl (fd V w 0) ++ [58] ++ dgl (fd V w 8) ++ [47] ++ dgl (fd V w 3) ++ dmgL V w ++ sgnL V w
/-- letters by a function, letters by a list -/
def lt (p : Int × (Int → Int)) (l : List Int) : Prop := p.1 = l.length ∧ ∀ j : Nat, j < l.length → p.2 j = l.getD j 0
theorem lt_C {p : Int × (Int → Int)} {l : List Int} (h : lt p l) (a : Int) : lt (pc1 p a) (l ++ [a]) := by
  obtain ⟨h1, h2⟩ := h
  refine ⟨?_, fun j hj => ?_⟩
  · rw [List.length_append]
    show p.1 + 1 = ((l.length + 1 : Nat) : Int)
    omega
  · rw [List.length_append] at hj
    have hj' : j < l.length + 1 := hj
    show up1 p.2 p.1 a j = _
    rw [getD_app, h1]
    by_cases c : j < l.length
    · rw [if_pos c, up1_nj (by omega)]
      exact h2 j c
    · have : j = l.length := by omega
      subst this
      rw [if_neg c, up1_eq, Nat.sub_self]
      rfl
theorem lt_I {p : Int × (Int → Int)} {l : List Int} (h : lt p l) (x : Int) : lt (pI1 p x) (l ++ dgl x) := by
  obtain ⟨h1, h2⟩ := h
  refine ⟨?_, fun j hj => ?_⟩
  · rw [List.length_append, dgl_len]
    show p.1 + nd x = ((l.length + nd x : Nat) : Int)
    omega
  · rw [List.length_append, dgl_len] at hj
    show wdg p.2 p.1 x j = _
    unfold wdg
    rw [getD_app, h1]
    by_cases c : j < l.length
    · rw [if_neg (by omega), if_pos c]
      exact h2 j c
    · rw [if_pos (by omega), if_neg c, dgl_at (by omega)]
      exact congrArg (dg x) (by omega)
section BI
variable {Θ : mW} {o : Option (Int → Int)} {N f q v v0 a b : Nat} {c c2 : Int} {l l2 : List Int} {h h0 h1 h2 : mH} {S S2 : Nat → Int → Int} {V : Int → Int}
theorem lt_bill {β : Int → Int} {w : Int} : lt (bt3 V w (bt2 V w (bt1 V w (fd V w 0) β))) (billL V w) := by
  have h1 : lt (bt1 V w (fd V w 0) β) ([35] ++ dgl (fd V w 0) ++ [58] ++ dgl (fd V w 8) ++ [47] ++ dgl (fd V w 3)) := lt_I (lt_C (lt_I (lt_C (lt_I (lt_C (p := (0, β)) (l := []) ⟨rfl, fun j hj => by simp at hj⟩ 35) _) 58) _) 47) _
  have h2 : lt (bt2 V w (bt1 V w (fd V w 0) β)) ([35] ++ dgl (fd V w 0) ++ [58] ++ dgl (fd V w 8) ++ [47] ++ dgl (fd V w 3) ++ dmgL V w) := by
    unfold bt2 dmgL
    by_cases z : fd V w 6 = 0
    · rw [if_pos z, if_pos z, List.append_nil]
      exact h1
    · rw [if_neg z, if_neg z, ← List.append_assoc]
      exact lt_I (lt_C h1 33) _
  unfold billL bt3 sgnL
  by_cases z : fd V w 4 = -1
  · rw [if_pos z, if_pos z, List.append_nil]
    exact h2
  · rw [if_neg z, if_neg z]
    exact lt_C h2 _
theorem billL_len {w : Int} : (billL V w).length ≤ 41 := by
  have m1 := nd_rng (fd V w 0)
  have m2 := nd_rng (fd V w 8)
  have m3 := nd_rng (fd V w 3)
  have m4 := nd_rng (fd V w 6)
  have d1 : (dmgL V w).length ≤ 10 := by
    unfold dmgL
    split
    · simp
    · rw [List.length_append, dgl_len]
      show 1 + _ ≤ 10
      omega
  have d2 : (sgnL V w).length ≤ 1 := by
    unfold sgnL
    split <;> simp
  unfold billL
  simp only [List.length_append, dgl_len, List.length_singleton]
  omega
theorem x_bill (hN : 2000 ≤ N) (c0 : 0 ≤ c) (c1 : c ≤ 2000) (wv : WV Θ f o c v h V) {w : Int} (w0 : 0 ≤ w) (w1 : w < V 4) : ∃ v2 h2, P_F_describeBill Θ N h f (J (fd V w 0)) = some (.inl (J (billL V w).length), h2) ∧ WV Θ f o c v2 h2 V ∧ LN Θ f v2 (billL V w) h2 ∧ FR Θ f v v2 h h2 20 2800 := by
  obtain ⟨S, rfl, so, kx, wg, ⟨n, β, w2⟩, w3⟩ := wv
  obtain ⟨b, D, r0, hs, hd, I, rng, -⟩ := kx.now
  have h4 := I.h4
  have ir := id_rng I c0 c1 w0 w1
  have fo := fnd_of I w0 w1
  have sh := I.sh w w0 w1
  unfold shOK at sh
  have h5 := I.h5
  have h7 := I.h7
  have bi := Inv.bill I w0 w1
  have m1 := nd_rng (fd (S 1) w 0)
  have m2 := nd_rng (fd (S 1) w 8)
  have m3 := nd_rng (fd (S 1) w 3)
  have m4 := nd_rng (fd (S 1) w 6)
  have rb : b + 13 ≤ f + 133 := rng.2
  obtain ⟨h1, p1, p2⟩ := ls_0 (N := N) w2
  have l0 : LB Θ f c S b D v h (0, β) 0 h1 := ⟨v, p2, ls_kx p2 w3 kx, ls_hs p2 w3 rb hs⟩
  obtain ⟨g1, a1, l1⟩ := lb_C (N := N) l0 w3 rb kx hs (a := 35) (by omega) (by omega) (by dsimp only; omega)
  obtain ⟨g2, a2, l2⟩ := lb_I (N := N) hN l1 w3 rb kx hs (a := fd (S 1) w 0) (by omega) (by omega) (by unfold pc1; dsimp only; omega)
  obtain ⟨g3, a3, l3⟩ := lb_C (N := N) l2 w3 rb kx hs (a := 58) (by omega) (by omega) (by unfold pI1 pc1; dsimp only; omega)
  obtain ⟨g4, a4, l4⟩ := lb_I (N := N) hN l3 w3 rb kx hs (a := fd (S 1) w 8) (by omega) (by omega) (by unfold pc1 pI1; dsimp only; omega)
  obtain ⟨g5, a5, l5⟩ := lb_C (N := N) l4 w3 rb kx hs (a := 47) (by omega) (by omega) (by unfold pI1 pc1; dsimp only; omega)
  obtain ⟨g6, a6, l6⟩ := lb_I (N := N) hN l5 w3 rb kx hs (a := fd (S 1) w 3) (by omega) (by omega) (by unfold pc1 pI1; dsimp only; omega)
  have b1 := bt1_le (V := S 1) (w := w) (id := fd (S 1) w 0) (β := β)
  have l6' : LB Θ f c S b D v h (bt1 (S 1) w (fd (S 1) w 0) β) 6 g6 := l6
  have b2 := bt2_le (V := S 1) (w := w) (p := bt1 (S 1) w (fd (S 1) w 0) β) b1.1 b1.2
  have n0 : ∀ {hh p y}, LB Θ f c S b D v h p y hh → rI Θ hh 3 (b + 3 + ro D w) 0 = some (J (fd (S 1) w 0)) := fun l => lb_s l hd h4.2 w0 w1 (i := 0) (w := 0) (by decide) (by decide) rfl rfl
  have n6 : ∀ {hh p y}, LB Θ f c S b D v h p y hh → rI Θ hh 3 (b + 3 + ro D w) 6 = some (J (fd (S 1) w 8)) := fun l => lb_s l hd h4.2 w0 w1 (i := 8) (w := 6) (by decide) (by decide) rfl rfl
  have n3 : ∀ {hh p y}, LB Θ f c S b D v h p y hh → rI Θ hh 3 (b + 3 + ro D w) 3 = some (J (fd (S 1) w 3)) := fun l => lb_s l hd h4.2 w0 w1 (i := 3) (w := 3) (by decide) (by decide) rfl rfl
  have n4 : ∀ {hh p y}, LB Θ f c S b D v h p y hh → rI Θ hh 3 (b + 3 + ro D w) 4 = some (J (fd (S 1) w 6)) := fun l => lb_s l hd h4.2 w0 w1 (i := 6) (w := 4) (by decide) (by decide) rfl rfl
  have lbl := lt_bill (V := S 1) (β := β) (w := w)
  have fin : ∀ (hh : mH) (y : Nat), y ≤ 19 → LB Θ f c S b D v h (bt2 (S 1) w (bt1 (S 1) w (fd (S 1) w 0) β)) y hh → P_F_describeBill Θ N h f (J (fd (S 1) w 0)) = bT Θ N f (b + 3 + ro D w) hh → ∃ v2 h2, P_F_describeBill Θ N h f (J (fd (S 1) w 0)) = some (.inl (J (billL (S 1) w).length), h2) ∧ WV Θ f o c v2 h2 (S 1) ∧ LN Θ f v2 (billL (S 1) w) h2 ∧ FR Θ f v v2 h h2 20 2800 := fun hh y hy l e => by
    obtain ⟨h9, z1, z2⟩ := l_bT (N := N) hd I w0 w1 w3 rb kx hs l b2.2
    obtain ⟨v9, z3, z4, z5⟩ := z2
    have x3 : Nx Θ h h9 (fun x => x = f + 155 ∨ x = v) 20 2800 := ⟨⟨z3.2.2.1.1, by have := z3.2.2.1.2; omega⟩, ⟨z3.2.2.2.1.1, by have := z3.2.2.2.1.2; omega⟩, fun x hx hp => z3.2.2.2.2 x hx (fun q => by rcases q with q | q | q <;> first | exact hp (Or.inl q) | exact hp (Or.inr q) | omega)⟩
    have fr : FR Θ f v v9 h h9 20 2800 := ⟨x3.wid (fun x _ q => by rcases q with q | q <;> first | exact Or.inl (by omega) | exact Or.inr q) (by omega) (by omega), z3.2.1⟩
    obtain ⟨G, hg⟩ := wg
    have hL : shG.length = 5 := rfl
    refine ⟨v9, h9, ?_, ⟨S, rfl, so, z4, ⟨G, hg.nx x3 (fun u u1 u2 q => by omega)⟩, ⟨_, _, z3.1⟩, ?_⟩, ⟨_, ?_, lbl.2⟩, fr⟩
    · rw [e, z1, lbl.1]
    · rcases z3.2.1 with e | e
      · omega
      · obtain ⟨B, A, cap, b1, -⟩ := w2
        have l1 := b1.1.2
        simp [shB] at l1
        omega
    · rw [← lbl.1]
      exact z3.1
  have e : P_F_describeBill Θ N h f (J (fd (S 1) w 0)) = P_F_describeBill Θ N h f (J (fd (S 1) w 0)) := rfl
  conv at e =>
    rhs
    unfold P_F_describeBill
    rw [r0, bo_some, rA10 hs, bo_some, gO2 hs, h_known hN hs hd I (int_r), fo, if_neg (show ¬ w = -1 by omega)]
  rw [bx_inl, kx.r7, bo_some, sb_O w2, p1, bc_some, lb_7 l0, bo_some, lb_O l0, a1, bc_some, n0 l1, bo_some, lb_O l1, a2, bc_some, lb_7 l2, bo_some, lb_O l2, a3, bc_some, n6 l3, bo_some, lb_O l3, a4, bc_some, lb_7 l4, bo_some, lb_O l4, a5, bc_some, n3 l5, bo_some, lb_O l5, a6, bc_some, n4 l6, bo_some, jn_eq] at e
  by_cases z : fd (S 1) w 6 = 0
  · rw [if_pos (show J (fd (S 1) w 6) = (0 : Int32) by rw [z]; rfl)] at e
    refine fin g6 6 (by omega) ?_ e
    unfold bt2
    rw [if_pos z]
    exact l6'
  · obtain ⟨g7, a7, l7⟩ := lb_C (N := N) l6' w3 rb kx hs (a := 33) (by omega) (by omega) (by omega)
    obtain ⟨g8, a8, l8⟩ := lb_I (N := N) hN l7 w3 rb kx hs (a := fd (S 1) w 6) (by omega) (by omega) (by unfold pc1; dsimp only; omega)
    rw [if_neg (show ¬ J (fd (S 1) w 6) = (0 : Int32) by rw [J_eq0] <;> omega), lb_7 l6', bo_some, lb_O l6', a7, bc_some, n4 l7, bo_some, lb_O l7, a8, bc_some] at e
    refine fin g8 8 (by omega) ?_ e
    unfold bt2
    rw [if_neg z]
    exact l8
end BI
