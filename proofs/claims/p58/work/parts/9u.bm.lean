/-! the class's line of a bill -/
section BM
variable {Θ : mW} {N f b m q v0 v y : Nat} {c k n t : Int} {S S' S2 : Nat → Int → Int} {h h0 h2 : mH} {bO : (Int → Int) → Prop} {D G : Nat → Int → Int} {V β g : Int → Int}
/-- what stays while the line grows -/
def LB (Θ : mW) (f : Nat) (c : Int) (S : Nat → Int → Int) (b : Nat) (D : Nat → Int → Int) (v0 : Nat) (h0 : mH) (p : Int × (Int → Int)) (y : Nat) (h : mH) : Prop := ∃ v, LNS Θ (f + 155) v0 h0 v p.1 p.2 y h ∧ KX Θ f c h S (fun _ => False) ∧ HB Θ shD b D h
theorem lb_C {p : Int × (Int → Int)} (l : LB Θ f c S b D v0 h0 p y h) (hv : v0 = f + 156 ∨ f + 157 ≤ v0) (hb : b + 13 ≤ f + 133) (kx : KX Θ f c h0 S (fun _ => False)) (hs : HB Θ shD b D h0) {a : Int} (a0 : 0 ≤ a) (a1 : a < 128) (hn : p.1 ≤ 60) : ∃ h2, P_SB_append_C Θ N h (f + 155) (J a) = some (f + 155, h2) ∧ LB Θ f c S b D v0 h0 (pc1 p a) (y + 1) h2 := by
  obtain ⟨v, l1, -, -⟩ := l
  obtain ⟨v2, h2, e1, e2⟩ := ls_C (N := N) l1 a0 a1 hn
  exact ⟨h2, e1, v2, e2, ls_kx e2 hv kx, ls_hs e2 hv hb hs⟩
theorem lb_I (hN : 2000 ≤ N) {p : Int × (Int → Int)} (l : LB Θ f c S b D v0 h0 p y h) (hv : v0 = f + 156 ∨ f + 157 ≤ v0) (hb : b + 13 ≤ f + 133) (kx : KX Θ f c h0 S (fun _ => False)) (hs : HB Θ shD b D h0) {a : Int} (a0 : 0 ≤ a) (a1 : a < 1000000000) (hn : p.1 ≤ 50) : ∃ h2, P_SB_append_I Θ N h (f + 155) (J a) = some (f + 155, h2) ∧ LB Θ f c S b D v0 h0 (pI1 p a) (y + 1) h2 := by
  obtain ⟨v, l1, -, -⟩ := l
  obtain ⟨v2, h2, e1, e2⟩ := ls_I (N := N) hN l1 a0 a1 hn
  exact ⟨h2, e1, v2, e2, ls_kx e2 hv kx, ls_hs e2 hv hb hs⟩
theorem lb_7 {p : Int × (Int → Int)} (l : LB Θ f c S b D v0 h0 p y h) : rA Θ h 0 f 7 = some (f + 155) := by
  obtain ⟨v, -, l2, -⟩ := l
  exact l2.r7
theorem lb_O {p : Int × (Int → Int)} (l : LB Θ f c S b D v0 h0 p y h) {ρ : Type} {x : Option ρ} : gO Θ h 8 (f + 155) x = x := by
  obtain ⟨v, l1, -, -⟩ := l
  exact sb_O l1.1
theorem lb_s {p : Int × (Int → Int)} (l : LB Θ f c S b D v0 h0 p y h) (hd : DV D (S 1)) (h4 : S 1 4 ≤ 8) {q i : Int} {w : Nat} (q0 : 0 ≤ q) (q1 : q < S 1 4) (i0 : 0 ≤ i) (i1 : i ≤ 8) (hw : sf i = w) (hk : ([none, none, none, none, none, none, none, none, none] : List (Option (Option Nat)))[w]? = some none) : rI Θ h 3 (b + 3 + ro D q) w = some (J (fd (S 1) q i)) := by
  obtain ⟨v, -, -, l3⟩ := l
  exact n_s l3 hd h4 q0 q1 i0 i1 hw hk
noncomputable def bT (Θ : mW) (N f v4 : Nat) (h28 : mH) : Option ((Int32 ⊕ Nat) × mH) := gO Θ h28 3 v4 (bc (P_S_isDocked Θ N h28 v4) (fun v30 h29 => (jn (fun (h32 : mH) => (bo (rA Θ h32 0 f 7) (fun v33 => (gO Θ h32 8 v33 (bc (P_SB_length Θ N h32 v33) (fun v35 h34 => (some (.inl v35, h34)))))))) (fun j31 => (if v30 = 0 then (j31 h29) else (bo (rA Θ h29 0 f 7) (fun v36 => (bo (rA Θ h29 0 f 0) (fun v37 => (bo (rI Θ h29 1 v37 2) (fun v38 => (gO Θ h29 3 v4 (bc (P_S_floatsAt Θ N h29 v4 v38) (fun v40 h39 => (jn (fun (h42 : mH) (s43 : Int32) => (gO Θ h42 8 v36 (bc (P_SB_append_C Θ N h42 v36 s43) (fun v45 h44 => (j31 h44))))) (fun j41 => (if v40 = 0 then (j41 h39 (J 95)) else (j41 h39 (J 126)))))))))))))))))))
theorem lb_len {p : Int × (Int → Int)} (l : LB Θ f c S b D v0 h0 p y h) : bo (rA Θ h 0 f 7) (fun v33 => (gO Θ h 8 v33 (bc (P_SB_length Θ N h v33) (fun v35 h34 => (some ((.inl v35 : Int32 ⊕ Nat), h34)))))) = some (.inl (J p.1), h) := by
  obtain ⟨v, l1, l2, -⟩ := l
  rw [l2.r7, bo_some, sb_O l1.1, sb_length l1.1, bc_some]
theorem l_bT (hd : DV D (S 1)) (I : In c (S 1)) {w : Int} (w0 : 0 ≤ w) (w1 : w < S 1 4) (hv : v0 = f + 156 ∨ f + 157 ≤ v0) (hb : b + 13 ≤ f + 133) (kx : KX Θ f c h0 S (fun _ => False)) (hs : HB Θ shD b D h0) {p : Int × (Int → Int)} (l : LB Θ f c S b D v0 h0 p y h) (hp : p.1 ≤ 40) : ∃ h2, bT Θ N f (b + 3 + ro D w) h = some (.inl (J (bt3 (S 1) w p).1), h2) ∧ LB Θ f c S b D v0 h0 (bt3 (S 1) w p) (y + 1) h2 := by
  have h4 := I.h4
  have l1 := I.h1
  obtain ⟨v, a1, a2, a3⟩ := id l
  have d := c_isDocked (N := N) a3.1 hd I w0 w1
  have fl := c_floatsAt (N := N) a3.1 hd I w0 w1 (x := S 1 1) (by omega) (by omega)
  rw [a3.hd] at d fl
  obtain ⟨b2, D2, r0, hs2, hd2, -, -, -⟩ := a2.now
  unfold bT
  rw [gO3 a3 hd w0 (by omega), d, bc_some, jn_eq]
  unfold bt3
  by_cases z : fd (S 1) w 4 = -1
  · rw [if_neg (show ¬ fd (S 1) w 4 ≠ -1 from fun u => u z), if_pos (show J 0 = (0 : Int32) from rfl), if_pos z]
    exact ⟨h, lb_len l, v, ⟨a1.1, a1.2.1, a1.2.2.up (by omega) (by omega)⟩, a2, a3⟩
  · rw [if_pos (show fd (S 1) w 4 ≠ -1 from z), if_neg (show ¬ J 1 = (0 : Int32) by decide), if_neg z, a2.r7, bo_some, r0, bo_some, n_lvl hs2 hd2, bo_some, gO3 a3 hd w0 (by omega), fl, bc_some, jn_eq]
    by_cases u : fd (S 1) w 2 ≤ S 1 1
    · rw [if_pos (Or.inr u), if_neg (show ¬ J 1 = (0 : Int32) by decide), if_pos u]
      dsimp only
      obtain ⟨h3, e1, e2⟩ := lb_C (N := N) l hv hb kx hs (a := 126) (by omega) (by omega) (by omega)
      refine ⟨h3, ?_, e2⟩
      rw [lb_O l, e1, bc_some]
      exact lb_len e2
    · rw [if_neg (show ¬ (fd (S 1) w 4 = -1 ∨ fd (S 1) w 2 ≤ S 1 1) by omega), if_pos (show J 0 = (0 : Int32) from rfl), if_neg u]
      dsimp only
      obtain ⟨h3, e1, e2⟩ := lb_C (N := N) l hv hb kx hs (a := 95) (by omega) (by omega) (by omega)
      refine ⟨h3, ?_, e2⟩
      rw [lb_O l, e1, bc_some]
      exact lb_len e2
end BM
