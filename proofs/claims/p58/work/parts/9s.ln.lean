/-! the line: describeDock, describeBill -/
def r6 (S : Nat → Int → Int) (g : Int → Int) : Nat → Int → Int := fun a => if a = 6 then g else S a
def LNS (Θ : mW) (q v0 : Nat) (h0 : mH) (v : Nat) (n : Int) (β : Int → Int) (y : Nat) (h : mH) : Prop := SBs Θ q v n β h ∧ (v = v0 ∨ mwB Θ + h0.length ≤ v) ∧ Nx Θ h0 h (fun x => x = q ∨ x = v0 ∨ mwB Θ + h0.length ≤ x) y (140 * y)
section LN
variable {Θ : mW} {N f b m q v0 v y : Nat} {c k n t : Int} {S S' S2 : Nat → Int → Int} {h h0 h2 : mH} {bO : (Int → Int) → Prop} {D G : Nat → Int → Int} {V β g : Int → Int}
theorem r6_o {a : Nat} (ha : a ≠ 6) : r6 S g a = S a := if_neg ha
theorem r6_6 : r6 S g 6 = g := if_pos rfl
theorem r6_r6 {g2 : Int → Int} : r6 (r6 S g) g2 = r6 S g2 := by
  funext a
  unfold r6
  by_cases z : a = 6
  · rw [if_pos z, if_pos z]
  · rw [if_neg z, if_neg z, if_neg z]
theorem r6_up {t d : Int} : up2 S 6 t d = r6 S (up1 (S 6) t d) := by
  funext a
  unfold r6
  by_cases z : a = 6
  · rw [if_pos z, z]
    unfold up2
    rw [if_pos rfl]
  · rw [if_neg z, up2_row z]
theorem SBs.cong (hs : SBs Θ q v n β h) (e : ∀ j : Int, 0 ≤ j → j < n → β j = g j) : SBs Θ q v n g h := by
  obtain ⟨B, A, cap, b1, b2, b3, b4, b5, b6, b7⟩ := hs
  exact ⟨B, A, cap, b1, b2, b3, b4, b5, b6, fun j j0 j1 => (b7 j j0 j1).trans (e j j0 j1)⟩
theorem ls_st (l : LNS Θ q v0 h0 v n β y h) {v2 : Nat} {n2 : Int} {β2 : Int → Int} (s2 : SBs Θ q v2 n2 β2 h2) (e : v2 = v ∨ mwB Θ + h.length ≤ v2) (x : Nx Θ h h2 (fun x => x = q ∨ x = v) 1 140) : LNS Θ q v0 h0 v2 n2 β2 (y + 1) h2 := by
  obtain ⟨l1, l2, l3⟩ := l
  have hl := l3.1.1
  refine ⟨s2, by omega, (l3.trans (x.wid (fun u hu p => ?_) (Nat.le_refl _) (Nat.le_refl _))).up (by omega) (by omega)⟩
  omega
theorem ls_C (l : LNS Θ q v0 h0 v n β y h) {a : Int} (a0 : 0 ≤ a) (a1 : a < 128) (hn : n ≤ 60) : ∃ v2 h2, P_SB_append_C Θ N h q (J a) = some (q, h2) ∧ LNS Θ q v0 h0 v2 (n + 1) (up1 β n a) (y + 1) h2 := by
  obtain ⟨v2, h2, p1, p2, p3, p4⟩ := sb_putC (N := N) l.1 a0 a1 hn
  exact ⟨v2, h2, p1, ls_st l p2 p3 p4⟩
theorem ls_I (hN : 2000 ≤ N) (l : LNS Θ q v0 h0 v n β y h) {a : Int} (a0 : 0 ≤ a) (a1 : a < 1000000000) (hn : n ≤ 50) : ∃ v2 h2, P_SB_append_I Θ N h q (J a) = some (q, h2) ∧ LNS Θ q v0 h0 v2 (n + nd a) (wdg β n a) (y + 1) h2 := by
  obtain ⟨v2, h2, p1, p2, p3, p4⟩ := sb_putI (N := N) hN l.1 a0 a1 hn
  exact ⟨v2, h2, p1, ls_st l p2 p3 p4⟩
theorem ls_0 (hs : SBs Θ q v n β h) : ∃ h2, P_SB_setLength Θ N h q (J 0) = some ((), h2) ∧ LNS Θ q v h v 0 β 0 h2 := by
  obtain ⟨h2, p1, p2, p3⟩ := sb_clear (N := N) hs
  exact ⟨h2, p1, p2, Or.inl rfl, p3.wid (fun u _ p => Or.inl p) (by omega) (by omega)⟩
theorem ls_kx (l : LNS Θ (f + 155) v0 h0 v n β y h) (h0v : v0 = f + 156 ∨ f + 157 ≤ v0) (kx : KX Θ f c h0 S bO) : KX Θ f c h S bO := by
  have x : Nx Θ h0 h (fun x => f + 150 ≤ x) y (140 * y) := l.2.2.wid (fun u hu p => by omega) (by omega) (by omega)
  exact kx.nx x (fun u hu p => by unfold KR at hu; omega)
theorem ls_hs (l : LNS Θ (f + 155) v0 h0 v n β y h) (h0v : v0 = f + 156 ∨ f + 157 ≤ v0) (hb : b + 13 ≤ f + 133) (hs : HB Θ shD b D h0) : HB Θ shD b D h := by
  have x : Nx Θ h0 h (fun x => f + 150 ≤ x) y (140 * y) := l.2.2.wid (fun u hu p => by omega) (by omega) (by omega)
  exact hs.nx x (fun u u1 u2 p => by have : shD.length = 13 := rfl; omega)
/-! describeDock -/
theorem sgn_rng (I : In c V) (hc : c ≤ 10000) {p : Int} (p0 : 0 ≤ p) (p1 : p < 60) : 0 ≤ sgn V p ∧ sgn V p < 128 := by
  unfold sgn
  split
  · split <;> omega
  · omega
theorem l_dock_L (hN : 2000 ≤ N) (hc : c ≤ 10000) (kx : KX Θ f c h0 S bO) (h0v : v0 = f + 156 ∨ f + 157 ≤ v0) {K : mH → Option (Int32 × mH)} : ∀ (r : Nat) (j : Int) (w : Nat) (v : Nat) (β : Int → Int) (h : mH) (y : Nat), LNS Θ (f + 155) v0 h0 v j β y h → 0 ≤ j → j + r = 60 → r < w → (∀ i : Int, 0 ≤ i → i < j → β i = sgn (S 1) i) → ∃ v2 β2 h2, P_F_describeDock_10 Θ N K f w h (J j) = K h2 ∧ LNS Θ (f + 155) v0 h0 v2 60 β2 (y + r) h2 ∧ (∀ i : Int, 0 ≤ i → i < 60 → β2 i = sgn (S 1) i) := by
  intro r
  induction r with
  | zero =>
    intro j w v β h y l j0 hj hw hβ
    obtain ⟨w, rfl⟩ : ∃ n', w = n' + 1 := ⟨w - 1, by omega⟩
    have e : j = 60 := by omega
    subst e
    refine ⟨v, β, h, ?_, l, hβ⟩
    rw [E_F_describeDock_10, B_F_describeDock_10, if_pos (by rw [J_le] <;> omega)]
  | succ r ih =>
    intro j w v β h y l j0 hj hw hβ
    obtain ⟨w, rfl⟩ : ∃ n', w = n' + 1 := ⟨w - 1, by omega⟩
    have kx2 := ls_kx l h0v kx
    obtain ⟨b, D, r0, hs, hd, I, -, -⟩ := kx2.now
    have sr := sgn_rng I hc j0 (by omega : j < 60)
    have sg := c_sign (N := N) hN hs.1 hd I (p := j) j0 (by omega)
    rw [hs.hd] at sg
    obtain ⟨v2, h2, q1, q2⟩ := ls_C (N := N) l sr.1 sr.2 (by omega)
    obtain ⟨v3, β3, h3, s1, s2, s3⟩ := ih (j + 1) w v2 _ h2 (y + 1) q2 (by omega) (by omega) (by omega) (fun i i0 i1 => by
      rw [up1_at]
      by_cases z : i = j
      · rw [if_pos z, z]
      · rw [if_neg z]; exact hβ i i0 (by omega))
    refine ⟨v3, β3, h3, ?_, by rw [show y + (r + 1) = y + 1 + r by omega]; exact s2, s3⟩
    rw [E_F_describeDock_10, B_F_describeDock_10, if_neg (by rw [J_le] <;> omega), kx2.r7, bo_some, r0, bo_some, gO1 hs, sg, bc_some, sb_O l.1, q1, bc_some, J_add]
    exact s1
def dds (S : Nat → Int → Int) (j : Int) : Nat → Int → Int := r6 S (fun i => if 0 ≤ i ∧ i < j then sgn (S 1) i else S 6 i)
end LN
