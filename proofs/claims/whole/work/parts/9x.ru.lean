/-! run -/
section RU
variable {Θ : mW} {N f m b q v : Nat} {n k c : Int} {τ : Int → Int} {S S2 T U : Nat → Int → Int} {h h2 : mH} {V0 : Int → Int} {tb : Int → Nat} {vp : Int → Prop} {pf : Option ((Int32 ⊕ Nat) × mH)} {pr : mH → Option (Int32 × mH)}
theorem k_back (hN : 2000 ≤ N) (ww : KX Θ f c h S (fun B => B = V0)) (e1 : ∀ j : Int, S2 1 j = if 0 ≤ j ∧ j < 140 then V0 j else S 1 j) (s : Sm S (ur S2 (S 1))) : ∃ a b h2, rA Θ h 0 f 0 = some a ∧ rA Θ h 0 f 1 = some b ∧ (∀ {ρ : Type} {p : Option ρ}, gO Θ h 1 a p = p) ∧ P_D_copyFrom Θ N h a b = some ((), h2) ∧ KX Θ f c h2 S2 (fun _ => False) ∧ Nx Θ h h2 (KR f) 0 0 := by
  obtain ⟨a, b, r, x, F, E, Q, kh, o2, ⟨⟨a10, b10, ab⟩, r10, rr⟩, o4, p1, p2, p4, p5, p6, p7⟩ := ww
  obtain ⟨W, w1, w2, w3⟩ := p4 V0 rfl
  obtain ⟨D, q1, q2⟩ := kh_copy (N := N) hN kh (i := a) (j := b) (by omega) (by omega) ab (p1 a (by omega)) w1 w2
  obtain ⟨s4, s5, s6, s7, s8, t1, t3, t4⟩ := s
  simp only [ur, if_neg (show ¬ ((0 : Nat) = 1) by decide), if_neg (show ¬ ((3 : Nat) = 1) by decide), if_neg (show ¬ ((4 : Nat) = 1) by decide)] at s4 s5 s6 s7 s8 t3 t4
  have e3 : S2 1 = fun j => if 0 ≤ j ∧ j < 140 then V0 (0 + j) else S 1 j := by
    funext j
    rw [e1, Int.zero_add]
  have nv : DV D (S2 1) ∧ In c (S2 1) := by
    have u : NV c D (fun j => V0 (0 + j)) := ⟨W, q2, w2, fun j j0 j1 => (w3 j j0 j1).trans (congrArg V0 (by omega))⟩
    rw [e3]
    exact u.to (ok_mix p2.2 u) (fun j j0 j1 => by rw [if_pos ⟨j0, j1⟩])
  refine ⟨f + dk a, f + dk b, _, kh_r0 kh o2, kh_r1 kh o2, fun {ρ p} => kh_O kh (by omega), q1, ⟨a, b, r, x, F, edk E a D, Q, kh_upd kh (by omega), ?_, ⟨⟨a10, b10, ab⟩, r10, rr⟩, ?_, fun i hi => ?_, ?_, fun B hB => hB.elim, fun e u0 u1 => ?_, ?_, fun g => ?_⟩, kh_nx kh (by omega)⟩
  · unfold KF at o2 ⊢
    rw [s4, s8, s6, s7]
    exact o2
  · unfold KQ at o4 ⊢
    rw [s5]
    exact o4
  · by_cases z : i = a
    · subst z; rw [edk_eq]; exact q2.pm
    · rw [edk_ne z]; exact p1 i hi
  · rw [edk_eq]; exact nv
  · rw [s5] at u1 ⊢
    rw [t4]
    have := r10 ((x - S 0 5 + e) % 8) (by omega) (by omega)
    rw [edk_ne this.2.1]
    exact p5 e u0 u1
  · rw [s4]; exact p6
  · rw [s4] at g
    rw [edk_ne (by omega), t3]
    exact p7 g
/-- what is told of one heap of the reference is told of all -/
theorem OQ.pt (h0 : bOK Θ 9 (f + 157) h) (inj : ∀ a b : Int, 1 ≤ a → a ≤ 4 → 1 ≤ b → b ≤ 4 → tb a ≠ 0 → tb a = tb b → a = b) (H : ∀ h2, bOK Θ 9 (f + 157) h2 → ∃ (v v' T : Int) (h1 : mH) (S' : Nat → Int → Int), (pf = if T = 0 then some (.inl (J v), h1) else some (.inr (tb T), h1)) ∧ (0 ≤ T ∧ T ≤ 4) ∧ (T ≠ 0 → tb T ≠ 0) ∧ (T = 0 → vp v) ∧ int' v ∧ pr (HR Θ (f + 157) S h2) = some (J v', HR Θ (f + 157) S' h2) ∧ S' 0 13 = T ∧ (T = 0 → v' = v) ∧ ZW Θ f (k + 1) h1 S S') : OQ Θ f k h S tb vp pf pr := by
  obtain ⟨v, v', T, h1, S', a1, a2, a3, a4, a5, a6, a7, a8, a9⟩ := H h h0
  refine ⟨v, T, h1, a1, a2, a3, a4, ⟨S', a9⟩, fun h2 hb => ?_⟩
  obtain ⟨w, w', T2, h3, S3, b1, b2, b3, b4, b5, b6, b7, b8, b9⟩ := H h2 hb
  rw [a1] at b1
  by_cases z : T = 0
  · rw [if_pos z] at b1
    by_cases y : T2 = 0
    · rw [if_pos y] at b1
      injection b1 with b1
      injection b1 with e1 e2
      injection e1 with e1
      rw [J_eq a5.1 a5.2 b5.1 b5.2] at e1
      exact ⟨w', S3, b6, by omega, fun _ => by rw [b8 y, e1], by rw [e2]; exact b9⟩
    · rw [if_neg y] at b1
      injection b1 with b1
      injection b1 with e1 e2
      cases e1
  · rw [if_neg z] at b1
    by_cases y : T2 = 0
    · rw [if_pos y] at b1
      injection b1 with b1
      injection b1 with e1 e2
      cases e1
    · rw [if_neg y] at b1
      injection b1 with b1
      injection b1 with e1 e2
      injection e1 with e1
      have := inj T T2 (by omega) (by omega) (by omega) (by omega) (a3 z) e1
      exact ⟨w', S3, b6, by omega, fun u => (z u).elim, by rw [e2]; exact b9⟩
theorem run_inj : ∀ a b : Int, 1 ≤ a → a ≤ 4 → 1 ≤ b → b ≤ 4 → tbl [11, 12] a ≠ 0 → tbl [11, 12] a = tbl [11, 12] b → a = b := by
  intro a b a1 a2 b1 b2
  have ha : a = 1 ∨ a = 2 ∨ a = 3 ∨ a = 4 := by omega
  have hb : b = 1 ∨ b = 2 ∨ b = 3 ∨ b = 4 := by omega
  rcases ha with rfl | rfl | rfl | rfl <;> rcases hb with rfl | rfl | rfl | rfl <;> decide
/-- the text is emptied -/
theorem t_clear (cc : CT Θ (f + 151) (f + 154) q v n τ T U h) (kx : rA Θ h 0 f 6 = some (f + 151)) : ∃ h2, bo (rA Θ h 0 f 6) (fun v18 => gO Θ h 7 v18 (P_T_clear Θ N h v18)) = some ((), h2) ∧ CT Θ (f + 151) (f + 154) q v 0 τ T U h2 ∧ Nx Θ h h2 (fun x => x = q) 0 0 := by
  obtain ⟨h2, p1, p2, p3⟩ := sb_clear (N := N) cc.2.2.1
  obtain ⟨c1, c2, c3, c4, c5⟩ := id cc
  refine ⟨h2, ?_, ⟨c1.nx p3 (fun u u1 u2 => ?_), c2.nx p3 (fun u u1 u2 => ?_), p2, c4, c5⟩, p3⟩
  · unfold P_T_clear
    rw [kx, bo_some, ct_O cc, ct_q cc, bo_some, sb_O c3, p1, bc_some]
  · have : shT.length = 1 := rfl
    omega
  · have : shN.length = 1 := rfl
    omega
theorem gO_bc {n a : Nat} {α ρ : Type} (x : Option (α × mH)) (K : α → mH → Option ρ) : gO Θ h n a (bc x K) = bc (gO Θ h n a x) K := by
  unfold gO
  cases gt Θ h a with
  | none => rfl
  | some e =>
    cases e with
    | inl e => rfl
    | inr e =>
      obtain ⟨ci, fs⟩ := e
      dsimp only
      split <;> rfl
theorem bo_bc {α β ρ : Type} (o : Option α) (x : α → Option (β × mH)) (K : β → mH → Option ρ) : bo o (fun v => bc (x v) K) = bc (bo o x) K := by cases o <;> rfl
/-- the pieces of the world after a run -/
theorem zw_run (ww : ZW Θ f k h S S) {v1 v2 : Nat} {T U : Nat → Int → Int} {y : Nat} {P : Nat → Prop} (w2 : SBs Θ (f + 155) v2 (S 0 12) (S 6) h) (w3 : (v1 = f + 153 ∨ f + 168 ≤ v1) ∧ (v2 = f + 156 ∨ f + 168 ≤ v2) ∧ v1 ≠ v2) (x : Nx Θ h h2 P y (6 * y)) (hP : ∀ u, P u → KR f u ∨ u = f + 151 ∨ u = f + 152 ∨ u = f + 154) (hy : y ≤ 30) (cc : CT Θ (f + 151) (f + 154) (f + 152) v1 0 τ T U h2) (kx : KX Θ f (k + 1) h2 S2 (fun _ => False)) (e10 : S2 0 10 = 0) (e12 : S2 0 12 = S 0 12) (e6 : S2 6 = S 6) (w8 : 0 ≤ S2 0 8 ∧ S2 0 8 ≤ 4) (w6 : -1 ≤ S2 0 6 ∧ S2 0 6 ≤ 100) (w7 : -1 ≤ S2 0 7 ∧ S2 0 7 ≤ 100) : ZW Θ f (k + 1) h2 S S2 := by
  obtain ⟨G, wg⟩ := ww.2.1.2.1
  have wn := ww.2.2.2.1
  have hp2 : ∀ u, P u → u < f + 146 ∨ u = f + 151 ∨ u = f + 152 ∨ u = f + 154 := fun u hu => by
    have := hP u hu
    unfold KR at this
    omega
  refine zw_g ww x (by omega) (by omega) (fun u hu => by have := hp2 u hu; omega) (by rw [e10, Int.sub_zero]; exact kx) ⟨v1, v2, T, U, ?_, ?_, w3⟩ ⟨G, wg.nx x (fun u u1 u2 hu => by have : shG.length = 5 := rfl; have := hp2 u hu; omega)⟩ ?_
  · rw [e10]
    obtain ⟨c1, c2, c3, c4, c5⟩ := cc
    exact ⟨c1, c2, c3.cong (fun j j0 j1 => by omega), c4, c5⟩
  · rw [e12, e6]
    exact sb_nx w2 x (fun hu => by have := hp2 _ hu; omega) (fun hu => by have := hp2 _ hu; omega)
  · unfold WN
    rw [e10, e12]
    exact ⟨by have := wn.1; omega, wn.2.1, w8, w6, w7⟩
end RU
