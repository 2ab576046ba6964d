/-! the changes, class and reference side by side -/
theorem bo_bx {α β ρ : Type} (o : Option α) (q : α → Option ((β ⊕ Nat) × mH)) (K : β → mH → Option ρ) (X : Nat → mH → Option ρ) : bo o (fun v => bx (q v) K X) = bx (bo o q) K X := by cases o <;> rfl
theorem gO_bx {Θ : mW} {h : mH} {n a : Nat} {β ρ : Type} (q : Option ((β ⊕ Nat) × mH)) (K : β → mH → Option ρ) (X : Nat → mH → Option ρ) : gO Θ h n a (bx q K X) = bx (gO Θ h n a q) K X := by
  unfold gO
  cases gt Θ h a with
  | none => rfl
  | some e =>
    cases e with
    | inl e => rfl
    | inr e =>
      obtain ⟨ci, fs⟩ := e
      dsimp only
      split <;> rfl
def tbl (l : List Nat) (t : Int) : Nat := l.getD (t.toNat - 1) 0
def IN1 (Θ : mW) (f m : Nat) (tb : Int → Nat) (vp : Int → Prop) (c : Int) (h : mH) (S : Nat → Int → Int) (bO : (Int → Int) → Prop) (pc : Option ((Int32 ⊕ Nat) × mH)) (pr : mH → Option (Int32 × mH)) : Prop :=
  ∃ (v : Int) (S' : Nat → Int → Int) (h1 : mH), (pc = if S' 0 13 = 0 then some (.inl (J v), h1) else some (.inr (tb (S' 0 13)), h1)) ∧ (∀ h2, bOK Θ 9 m h2 → pr (HR Θ m S h2) = some (J v, HR Θ m S' h2)) ∧ KX Θ f (c + 1) h1 S' bO ∧ Nx Θ h h1 (KR f) 1 6 ∧ (0 ≤ S' 0 13 ∧ S' 0 13 ≤ 4) ∧ (S' 0 13 ≠ 0 → S' 1 = S 1) ∧ (∀ a : Nat, a ≠ 0 → a ≠ 1 → S' a = S a) ∧ (∀ j : Int, j ≠ 8 → j ≠ 13 → S' 0 j = S 0 j) ∧ (S' 0 13 = 0 → vp v) ∧ (0 ≤ S 0 8 → S 0 8 ≤ 4 → 0 ≤ S' 0 8 ∧ S' 0 8 ≤ 4) ∧ (S' 0 13 ≠ 0 → tb (S' 0 13) ≠ 0)
def INN (Θ : mW) (f m : Nat) (tb : Int → Nat) (vp : Int → Prop) (pc : mH → Option ((Int32 ⊕ Nat) × mH)) (pr : mH → Option (Int32 × mH)) : Prop := ∀ (c : Int) (h : mH) (S : Nat → Int → Int) (bO : (Int → Int) → Prop), 0 ≤ c → c ≤ 2000 → KX Θ f c h S bO → IN1 Θ f m tb vp c h S bO (pc h) pr
section IN
variable {Θ : mW} {N f m b : Nat} {c : Int} {S : Nat → Int → Int} {h : mH} {bO : (Int → Int) → Prop} {D : Nat → Int → Int} {V : Int → Int} {tb : Int → Nat} {vp : Int → Prop} {pc : Option ((Int32 ⊕ Nat) × mH)} {pr : mH → Option (Int32 × mH)}
theorem ex_hd (hs : HB Θ shD b D h) {n : Nat} : HD Θ b D (h ++ [oB n []]) = h ++ [oB n []] := (BK_app hs.1).symm.trans (by rw [hs.2])
theorem T13_o {a : Nat} {v : Int} (ha : a ≠ 0) : T13 S v a = S a := up2_row ha
theorem T13_j {v j : Int} (hj : j ≠ 13) : T13 S v 0 j = S 0 j := up2_nj hj
theorem Sm.t {v : Int} : Sm S (T13 S v) := ⟨T13_j (by decide), T13_j (by decide), T13_j (by decide), T13_j (by decide), T13_j (by decide), T13_o (by decide), T13_o (by decide), T13_o (by decide)⟩
theorem mk_ex (w : KX Θ f c h S bO) {T v : Int} {n : Nat} (T1 : 1 ≤ T) (T2 : T ≤ 4) (hn : tb T = n) (hp : pc = some (.inr n, h ++ [oB n []])) (hr : ∀ h2, bOK Θ 9 m h2 → pr (HR Θ m S h2) = some (J v, HR Θ m (T13 S T) h2)) (n0 : n ≠ 0 := by decide) : IN1 Θ f m tb vp c h S bO pc pr := by
  have e : T13 S T 0 13 = T := T13_t
  refine ⟨v, T13 S T, h ++ [oB n []], ?_, hr, ((w.mono (by omega)).nx (P := fun _ => False) Nx.ex (fun _ _ z => z)).sm Sm.t, Nx.ex, ?_, fun _ => T13_1, fun a a0 _ => T13_o a0, fun j _ j3 => T13_j j3, fun z => ?_, fun z1 z2 => ?_, fun _ => ?_⟩
  · rw [e, if_neg (by omega), hn, hp]
  · rw [e]; omega
  · rw [e] at z; omega
  · rw [T13_j (by decide)]; exact ⟨z1, z2⟩
  · rw [e, hn]; exact n0
theorem mk_ok (hs : HB Θ shD b D h) (rng : f + 1 ≤ b ∧ b + 13 ≤ f + 133) (upd : ∀ (D' : Nat → Int → Int) (S2 : Nat → Int → Int), DV D' (S2 1) → In (c + 1) (S2 1) → Sm S (ur S2 (S 1)) → KX Θ f (c + 1) (HD Θ b D' h) S2 bO) {D' : Nat → Int → Int} {v : Int} (hp : pc = some (.inl (J v), HD Θ b D' h)) (hd : DV D' V) (I : In (c + 1) V) (hr : ∀ h2, bOK Θ 9 m h2 → pr (HR Θ m S h2) = some (J v, HR Θ m (ur (T13 S 0) V) h2)) (hv : vp v) : IN1 Θ f m tb vp c h S bO pc pr := by
  have e1 : ur (T13 S 0) V 1 = V := if_pos rfl
  have e0 : ∀ a : Nat, a ≠ 1 → ur (T13 S 0) V a = T13 S 0 a := fun a ha => if_neg ha
  have e : ur (T13 S 0) V 0 13 = 0 := by rw [e0 0 (by decide)]; exact T13_t
  have hL : shD.length = 13 := rfl
  refine ⟨v, ur (T13 S 0) V, HD Θ b D' h, ?_, hr, upd D' _ (by rw [e1]; exact hd) (by rw [e1]; exact I) ?_, ((Nx.bk hs).wid (fun x _ p => ⟨by omega, by omega⟩) (by omega) (by omega)), ?_, fun z => (z e).elim, fun a a0 a1 => ?_, fun j _ j3 => ?_, fun _ => hv, fun z1 z2 => ?_, fun z => (z e).elim⟩
  · rw [e, if_pos rfl, hp]
  · have q : ur (ur (T13 S 0) V) (S 1) = T13 S 0 := by
      funext a
      unfold ur
      by_cases z : a = 1
      · rw [if_pos z, z, T13_1]
      · rw [if_neg z, if_neg z]
    rw [q]
    exact Sm.t
  · rw [e]; omega
  · rw [e0 a a1, T13_o a0]
  · rw [e0 0 (by decide), T13_j j3]
  · rw [e0 0 (by decide), T13_j (by decide)]; exact ⟨z1, z2⟩
theorem mk_rf (w : KX Θ f c h S bO) {T y v : Int} (T1 : 1 ≤ T) (T2 : T ≤ 4) (y1 : 1 ≤ y) (y2 : y ≤ 4) (hn : tb T = 13) (hp : pc = bo (wF Θ h 0 f 8 (.int (J y))) (fun h1 => some (.inr 13, h1 ++ [oB 13 []]))) (hr : ∀ h2, bOK Θ 9 m h2 → pr (HR Θ m S h2) = some (J v, HR Θ m (up2 (T13 S T) 0 8 y) h2)) : IN1 Θ f m tb vp c h S bO pc pr := by
  have e : up2 (T13 S T) 0 8 y 0 13 = T := by rw [up2_nj (by decide), T13_t]
  have e0 : ∀ a : Nat, a ≠ 0 → up2 (T13 S T) 0 8 y a = S a := fun a ha => by rw [up2_row ha, T13_o ha]
  have ej : ∀ j : Int, j ≠ 8 → j ≠ 13 → up2 (T13 S T) 0 8 y 0 j = S 0 j := fun j h8 h13 => by rw [up2_nj h8, T13_j h13]
  have e8 : up2 (T13 S T) 0 8 y 0 8 = y := up2_eq
  obtain ⟨h2, q1, q2, q3⟩ := (w.mono (c2 := c + 1) (by omega)).w (S2 := up2 (T13 S T) 0 8 y) (i := 8) (v := y) (Or.inl rfl) (fun z => by cases z) (by
    unfold KF
    rw [e8, ej 4 (by decide) (by decide), ej 6 (by decide) (by decide), ej 7 (by decide) (by decide)]
    have : krf y = y := by unfold krf; rw [if_neg (by omega)]
    rw [this]
    simp [up2_at]) (ej 5 (by decide) (by decide)) e0
  refine ⟨v, up2 (T13 S T) 0 8 y, h2 ++ [oB 13 []], ?_, hr, q2.nx (P := fun _ => False) Nx.ex (fun _ _ z => z), ((q3.trans Nx.ex).up (by omega) (by omega)), ?_, fun _ => e0 1 (by decide), fun a a0 _ => e0 a a0, fun j j8 j3 => ej j j8 j3, fun z => ?_, fun z1 z2 => ?_, fun _ => ?_⟩
  · rw [e, if_neg (by omega), hn, hp, q1, bo_some]
  · rw [e]; omega
  · rw [e] at z; omega
  · rw [e8]; omega
  · rw [e, hn]; decide
theorem up2_ur0 {k v : Int} : up2 (T13 S 0) 1 k v = ur (T13 S 0) (up1 (S 1) k v) := by
  funext a
  unfold ur
  by_cases z : a = 1
  · rw [z, if_pos rfl, up2_1, T13_1]
  · rw [if_neg z, up2_row z]
theorem add_ur (h4 : 0 ≤ S 1 4) {l d t : Int} : up2 (up2 (up2 (up2 (up2 (up2 (up2 (zer (T13 S 0) (8 + 9 * S 1 4) 9) 1 (8 + 9 * S 1 4 + 0) (S 1 5)) 1 (8 + 9 * S 1 4 + 1) l) 1 (8 + 9 * S 1 4 + 2) d) 1 (8 + 9 * S 1 4 + 3) t) 1 (8 + 9 * S 1 4 + 4) (-1)) 1 4 (S 1 4 + 1)) 1 5 (S 1 5 + 1) = ur (T13 S 0) (addV (S 1) l d t) := by
  funext a j
  unfold ur
  by_cases z : a = 1
  · subst z
    rw [if_pos rfl]
    unfold addV
    simp only [up2_at, zer_at, T13_1, true_and]
    repeat' split
    all_goals first | rfl | omega
  · rw [if_neg z, up2_ne z, up2_ne z, up2_ne z, up2_ne z, up2_ne z, up2_ne z, up2_ne z, zer_at, if_neg (by omega)]
theorem rA10 (hs : HB Θ shD b D h) : rA Θ h 1 b 0 = some (b + 1) := HB.xA hs (i := 0) rfl rfl
theorem rA11 (hs : HB Θ shD b D h) : rA Θ h 1 b 1 = some (b + 11) := HB.xA hs (i := 0) rfl rfl
theorem gO1 (hs : HB Θ shD b D h) {ρ : Type} {p : Option ρ} : gO Θ h 1 b p = p := HB.xO hs (i := 0) rfl
theorem gO2 (hs : HB Θ shD b D h) {ρ : Type} {p : Option ρ} : gO Θ h 2 (b + 1) p = p := HB.xO hs (i := 1) rfl
theorem gO4 (hs : HB Θ shD b D h) {ρ : Type} {p : Option ρ} : gO Θ h 4 (b + 11) p = p := HB.xO hs (i := 11) rfl
abbrev int' (x : Int) : Prop := -2147483648 ≤ x ∧ x < 2147483648
noncomputable def pcA (Θ : mW) (N f : Nat) (l d t : Int32) (h : mH) : Option ((Int32 ⊕ Nat) × mH) := bo (rA Θ h 0 f 0) (fun v3 => bo (rA Θ h 1 v3 0) (fun v4 => gO Θ h 2 v4 (P_L_register Θ N h v4 l d t)))
theorem in_add {l d t : Int} (hl : int' l) (hd' : int' d) (ht : int' t) (hN : 2000 ≤ N) : INN Θ f m (tbl [11, 12]) (fun _ => True) (pcA Θ N f (J l) (J d) (J t)) (fun h => P_R_adds Θ N h m (J l) (J d) (J t)) := by
  intro c h S bO c0 c1 w
  have I := w.ok.1
  obtain ⟨b, D, r0, hs, hd, -, rng, upd⟩ := (w.mono (c2 := c + 1) (by omega)).now
  have e : pcA Θ N f (J l) (J d) (J t) h = P_L_register Θ N h (b + 1) (J l) (J d) (J t) := by
    unfold pcA
    rw [r0, bo_some, rA10 hs, bo_some, gO2 hs]
  have p := c_register (N := N) hs.1 hd I hl.1 hl.2 hd'.1 hd'.2 ht.1 ht.2
  have q : ∀ h2, bOK Θ 9 m h2 → P_R_adds Θ N (HR Θ m S h2) m (J l) (J d) (J t) = some (J (addR S l d t).1, HR Θ m (addR S l d t).2 h2) := fun h2 hb => s_adds hN hb (Inv.ok I) hl.1 hl.2 hd'.1 hd'.2 ht.1 ht.2
  rw [hs.hd] at p
  unfold addR at q
  by_cases c1 : ¬ ((5 ≤ l ∧ l ≤ 30) ∧ (5 ≤ d ∧ d ≤ 80) ∧ (0 ≤ t ∧ t ≤ 99))
  · rw [if_pos c1, ex_hd hs] at p
    simp only [if_pos c1] at q
    exact mk_ex w (T := 1) (by omega) (by omega) rfl (e.trans p) q
  · rw [if_neg c1] at p
    simp only [if_neg c1] at q
    by_cases c2 : 8 ≤ S 1 4
    · rw [if_pos c2, ex_hd hs] at p
      simp only [if_pos c2] at q
      exact mk_ex w (T := 2) (by omega) (by omega) rfl (e.trans p) q
    · rw [if_neg c2] at p
      simp only [if_neg c2] at q
      obtain ⟨D', p1, p2⟩ := p
      have c3 := Decidable.not_not.mp c1
      have h4 := I.h4
      rw [add_ur h4.1] at q
      exact mk_ok hs rng upd (e.trans p1) p2 ((Inv.add I (by omega) c3.1 c3.2.1 c3.2.2 (by omega)).mono (by omega) (by omega) (by omega)) q trivial
noncomputable def pcR (Θ : mW) (N f : Nat) (i : Int32) (h : mH) : Option ((Int32 ⊕ Nat) × mH) := bo (rA Θ h 0 f 0) (fun v3 => bo (rA Θ h 1 v3 0) (fun v4 => gO Θ h 2 v4 (P_L_strike Θ N h v4 i)))
theorem in_rmv {i : Int} (hi : int' i) (hN : 2000 ≤ N) : INN Θ f m (tbl [10, 12]) (fun _ => True) (pcR Θ N f (J i)) (fun h => P_R_removes Θ N h m (J i)) := by
  intro c h S bO c0 c1 w
  have I := w.ok.1
  obtain ⟨b, D, r0, hs, hd, -, rng, upd⟩ := (w.mono (c2 := c + 1) (by omega)).now
  have e : pcR Θ N f (J i) h = P_L_strike Θ N h (b + 1) (J i) := by
    unfold pcR
    rw [r0, bo_some, rA10 hs, bo_some, gO2 hs]
  have p := c_strike (N := N) hN hs.1 hd I hi.1 hi.2
  have q : ∀ h2, bOK Θ 9 m h2 → P_R_removes Θ N (HR Θ m S h2) m (J i) = some (J (rmvR S i).1, HR Θ m (rmvR S i).2 h2) := fun h2 hb => s_removes hN hb (Inv.ok I) hi.1 hi.2
  rw [hs.hd] at p
  unfold rmvR at q
  by_cases c1 : fnd (S 1) i (mny (S 1)) = -1
  · rw [if_pos c1, ex_hd hs] at p
    simp only [if_pos c1] at q
    exact mk_ex w (T := 1) (by omega) (by omega) rfl (e.trans p) q
  · rw [if_neg c1] at p
    simp only [if_neg c1] at q
    by_cases c2 : ¬ (fd (S 1) (fnd (S 1) i (mny (S 1))) 4 = -1 ∧ fd (S 1) (fnd (S 1) i (mny (S 1))) 8 = 0)
    · rw [if_pos c2, ex_hd hs] at p
      simp only [if_pos c2] at q
      exact mk_ex w (T := 2) (by omega) (by omega) rfl (e.trans p) q
    · rw [if_neg c2] at p
      simp only [if_neg c2, up2_ur] at q
      obtain ⟨D', p1, p2⟩ := p
      have c3 := Decidable.not_not.mp c2
      have fl := fnd_lt I c1
      exact mk_ok hs rng upd (e.trans p1) p2 ((Inv.rmv I fl.1 fl.2 c3.2).mono (by omega) (by omega) (by omega)) q trivial
noncomputable def pcC (Θ : mW) (N f : Nat) (i x : Int32) (h : mH) : Option ((Int32 ⊕ Nat) × mH) := bo (rA Θ h 0 f 0) (fun v3 => gO Θ h 1 v3 (P_D_switchCleaning Θ N h v3 i x))
theorem in_cle {i x : Int} (hi : int' i) (hx : x = 0 ∨ x = 1) (hN : 2000 ≤ N) : INN Θ f m (tbl [10, 12]) (fun v => v = 0 ∨ v = 1) (pcC Θ N f (J i) (J x)) (fun h => P_R_cleans Θ N h m (J i) (J x)) := by
  intro c h S bO c0 c1 w
  have I := w.ok.1
  obtain ⟨b, D, r0, hs, hd, -, rng, upd⟩ := (w.mono (c2 := c + 1) (by omega)).now
  have e : pcC Θ N f (J i) (J x) h = P_D_switchCleaning Θ N h b (J i) (J x) := by
    unfold pcC
    rw [r0, bo_some, gO1 hs]
  have p := c_clean (N := N) hN hs.1 hd I hi.1 hi.2 hx
  have q : ∀ h2, bOK Θ 9 m h2 → P_R_cleans Θ N (HR Θ m S h2) m (J i) (J x) = some (J (cleR S i x).1, HR Θ m (cleR S i x).2 h2) := fun h2 hb => s_cleans hN hb (Inv.ok I) hi.1 hi.2
  rw [hs.hd] at p
  unfold cleR at q
  dsimp only at q
  by_cases c1 : fnd (S 1) i (mny (S 1)) = -1
  · rw [if_pos c1, ex_hd hs] at p
    simp only [if_pos c1] at q
    exact mk_ex w (T := 1) (by omega) (by omega) rfl (e.trans p) q
  · rw [if_neg c1] at p
    simp only [if_neg c1] at q
    by_cases c2 : fd (S 1) (fnd (S 1) i (mny (S 1))) 4 = -1
    · rw [if_pos c2, ex_hd hs] at p
      simp only [if_pos c2] at q
      exact mk_ex w (T := 2) (by omega) (by omega) rfl (e.trans p) q
    · rw [if_neg c2] at p
      simp only [if_neg c2, up2_ur0] at q
      obtain ⟨D', p1, p2⟩ := p
      have fl := fnd_lt I c1
      have s := I.sh _ fl.1 fl.2
      unfold shOK at s
      exact mk_ok hs rng upd (e.trans p1) p2 ((Inv.put I fl.1 fl.2 (Or.inr (Or.inl ⟨rfl, hx⟩)) (by omega)).mono (by omega) (by omega) (by omega)) q s.2.2.2.2.2.1
noncomputable def pcG (Θ : mW) (N f : Nat) (x : Int32) (h : mH) : Option ((Int32 ⊕ Nat) × mH) := bo (rA Θ h 0 f 0) (fun v3 => gO Θ h 1 v3 (P_D_moveGate Θ N h v3 x))
theorem in_gat {x : Int} (hx : x = 0 ∨ x = 1) : INN Θ f m (tbl [13]) (fun v => v = 0 ∨ v = 1) (pcG Θ N f (J x)) (fun h => P_R_gates Θ N h m (J x)) := by
  intro c h S bO c0 c1 w
  have I := w.ok.1
  obtain ⟨b, D, r0, hs, hd, -, rng, upd⟩ := (w.mono (c2 := c + 1) (by omega)).now
  have e : pcG Θ N f (J x) h = P_D_moveGate Θ N h b (J x) := by
    unfold pcG
    rw [r0, bo_some, gO1 hs]
  have p := c_gate (N := N) hs.1 hd I (by omega) hx
  have q : ∀ h2, bOK Θ 9 m h2 → P_R_gates Θ N (HR Θ m S h2) m (J x) = some (J (gatR S x).1, HR Θ m (gatR S x).2 h2) := fun h2 hb => s_gates hb (Inv.ok I) I.h0.1 hx
  rw [hs.hd] at p
  unfold gatR at q
  by_cases c1 : ¬ (x = 0 ∨ (-20 ≤ S 1 1 - sea (S 1 0) ∧ S 1 1 - sea (S 1 0) ≤ 20))
  · rw [if_pos c1, ex_hd hs] at p
    simp only [if_pos c1] at q
    exact mk_ex w (T := 1) (by omega) (by omega) rfl (e.trans p) q
  · rw [if_neg c1] at p
    simp only [if_neg c1, up2_ur0] at q
    exact mk_ok hs rng upd (e.trans p) hd.u2 ((Inv.low I (c := 2) (v := x) (H' := 48 * c + 3) (Or.inr (Or.inr (Or.inl ⟨rfl, hx, rfl⟩))) (by omega)).mono (by omega) (by omega) (by omega)) q I.h2
noncomputable def pcP (Θ : mW) (N f : Nat) (x : Int32) (h : mH) : Option ((Int32 ⊕ Nat) × mH) := bo (rA Θ h 0 f 0) (fun v3 => gO Θ h 1 v3 (P_D_changeRate Θ N h v3 x))
theorem in_pum {x : Int} (hx : int' x) : INN Θ f m (tbl [11]) (fun _ => True) (pcP Θ N f (J x)) (fun h => P_R_pumps Θ N h m (J x)) := by
  intro c h S bO c0 c1 w
  have I := w.ok.1
  obtain ⟨b, D, r0, hs, hd, -, rng, upd⟩ := (w.mono (c2 := c + 1) (by omega)).now
  have e : pcP Θ N f (J x) h = P_D_changeRate Θ N h b (J x) := by
    unfold pcP
    rw [r0, bo_some, gO1 hs]
  have p := c_rate (N := N) hs.1 hd hx.1 hx.2
  have q : ∀ h2, bOK Θ 9 m h2 → P_R_pumps Θ N (HR Θ m S h2) m (J x) = some (J (pumR S x).1, HR Θ m (pumR S x).2 h2) := fun h2 hb => s_pumps hb hx.1 hx.2
  rw [hs.hd] at p
  unfold pumR at q
  by_cases c1 : ¬ (-30 ≤ x ∧ x ≤ 30)
  · rw [if_pos c1, ex_hd hs] at p
    simp only [if_pos c1] at q
    exact mk_ex w (T := 1) (by omega) (by omega) rfl (e.trans p) q
  · rw [if_neg c1] at p
    simp only [if_neg c1, up2_ur0] at q
    exact mk_ok hs rng upd (e.trans p) hd.u3 ((Inv.low I (c := 3) (v := x) (H' := 48 * c + 3) (Or.inr (Or.inr (Or.inr ⟨rfl, by omega, by omega, rfl⟩))) (by omega)).mono (by omega) (by omega) (by omega)) q trivial
noncomputable def pcW (Θ : mW) (N f : Nat) (x : Int32) (h : mH) : Option ((Int32 ⊕ Nat) × mH) := bo (rA Θ h 0 f 0) (fun v3 => gO Θ h 1 v3 (P_D_letPass Θ N h v3 x))
theorem in_wai {x : Int} (hx : int' x) (hN : 2000 ≤ N) : INN Θ f m (tbl [11]) (fun _ => True) (pcW Θ N f (J x)) (fun h => P_R_waits Θ N h m (J x)) := by
  intro c h S bO c0 c1 w
  have I := w.ok.1
  obtain ⟨b, D, r0, hs, hd, -, rng, upd⟩ := (w.mono (c2 := c + 1) (by omega)).now
  have e : pcW Θ N f (J x) h = P_D_letPass Θ N h b (J x) := by
    unfold pcW
    rw [r0, bo_some, gO1 hs]
  have p := c_letPass (N := N) hN hs.1 hd I (by omega) (by omega) hx.1 hx.2
  have q : ∀ h2, bOK Θ 9 m h2 → P_R_waits Θ N (HR Θ m S h2) m (J x) = some (J (waiR S x).1, HR Θ m (waiR S x).2 h2) := fun h2 hb => s_waits hN hb I (by omega) (by omega) hx.1 hx.2
  rw [hs.hd] at p
  unfold waiR at q
  by_cases c1 : 1 ≤ x ∧ x ≤ 48
  · rw [if_pos c1] at p
    simp only [if_neg (show ¬ ¬ (1 ≤ x ∧ x ≤ 48) from fun z => z c1)] at q
    obtain ⟨D', p1, p2⟩ := p
    have o := (wtO_inv x.toNat (11904 * c) (48 * c + 3) (S 1) 0 I (by omega) (by omega)).1
    exact mk_ok hs rng upd (e.trans p1) p2 (o.mono (by omega) (by omega) (by omega)) q trivial
  · rw [if_neg c1, ex_hd hs] at p
    simp only [if_pos c1] at q
    exact mk_ex w (T := 1) (by omega) (by omega) rfl (e.trans p) q
noncomputable def pcB (Θ : mW) (N f : Nat) (x : Int32) (h : mH) : Option ((Int32 ⊕ Nat) × mH) := bo (rA Θ h 0 f 0) (fun v3 => gO Θ h 1 v3 (P_D_addBlock Θ N h v3 x))
theorem in_lay {x : Int} (hx : int' x) (hN : 2000 ≤ N) : INN Θ f m (tbl [11, 12, 13]) (fun _ => True) (pcB Θ N f (J x)) (fun h => P_R_lays Θ N h m (J x)) := by
  intro c h S bO c0 c1 w
  have I := w.ok.1
  obtain ⟨b, D, r0, hs, hd, -, rng, upd⟩ := (w.mono (c2 := c + 1) (by omega)).now
  have e : pcB Θ N f (J x) h = P_D_addBlock Θ N h b (J x) := by
    unfold pcB
    rw [r0, bo_some, gO1 hs]
  have p := c_addBlock (N := N) hN hs.1 hd I hx.1 hx.2
  have q : ∀ h2, bOK Θ 9 m h2 → P_R_lays Θ N (HR Θ m S h2) m (J x) = some (J (layR S x).1, HR Θ m (layR S x).2 h2) := fun h2 hb => s_lays hN hb (Inv.ok I) I.blk0.1 I.blk0.2 hx.1 hx.2
  rw [hs.hd] at p
  unfold layR at q
  by_cases c1 : ¬ (0 ≤ x ∧ x ≤ 59)
  · rw [if_pos c1, ex_hd hs] at p
    simp only [if_pos c1] at q
    exact mk_ex w (T := 1) (by omega) (by omega) rfl (e.trans p) q
  · rw [if_neg c1] at p
    simp only [if_neg c1] at q
    by_cases c2 : ¬ (blk (S 1) 60 < 20 ∧ ¬ S 1 (80 + x) = 1)
    · rw [if_pos c2, ex_hd hs] at p
      simp only [if_pos c2] at q
      exact mk_ex w (T := 2) (by omega) (by omega) rfl (e.trans p) q
    · rw [if_neg c2] at p
      simp only [if_neg c2] at q
      by_cases c3 : ¬ (S 1 1 ≤ 30 ∧ at' (S 1) x = -1)
      · rw [if_pos c3, ex_hd hs] at p
        simp only [if_pos c3] at q
        exact mk_ex w (T := 3) (by omega) (by omega) rfl (e.trans p) q
      · rw [if_neg c3] at p
        simp only [if_neg c3, up2_ur0] at q
        obtain ⟨D', p1, p2⟩ := p
        have c4 := Decidable.not_not.mp c2
        have bl := I.bl x (by omega) (by omega)
        exact mk_ok hs rng upd (e.trans p1) p2 ((Inv.blkS I (p := x) (v := 1) (by omega) (by omega) (Or.inr rfl) (by omega)).mono (by omega) (by omega) (by omega)) q trivial
noncomputable def pcU (Θ : mW) (N f : Nat) (x : Int32) (h : mH) : Option ((Int32 ⊕ Nat) × mH) := bo (rA Θ h 0 f 0) (fun v3 => gO Θ h 1 v3 (P_D_takeBlock Θ N h v3 x))
theorem in_tak {x : Int} (hx : int' x) (hN : 2000 ≤ N) : INN Θ f m (tbl [11, 10, 13]) (fun _ => True) (pcU Θ N f (J x)) (fun h => P_R_takes Θ N h m (J x)) := by
  intro c h S bO c0 c1 w
  have I := w.ok.1
  obtain ⟨b, D, r0, hs, hd, -, rng, upd⟩ := (w.mono (c2 := c + 1) (by omega)).now
  have e : pcU Θ N f (J x) h = P_D_takeBlock Θ N h b (J x) := by
    unfold pcU
    rw [r0, bo_some, gO1 hs]
  have p := c_takeBlock (N := N) hN hs.1 hd I hx.1 hx.2
  have q : ∀ h2, bOK Θ 9 m h2 → P_R_takes Θ N (HR Θ m S h2) m (J x) = some (J (takR S x).1, HR Θ m (takR S x).2 h2) := fun h2 hb => s_takes hN hb (Inv.ok I) hx.1 hx.2
  rw [hs.hd] at p
  unfold takR at q
  by_cases c1 : ¬ (0 ≤ x ∧ x ≤ 59)
  · rw [if_pos c1, ex_hd hs] at p
    simp only [if_pos c1] at q
    exact mk_ex w (T := 1) (by omega) (by omega) rfl (e.trans p) q
  · rw [if_neg c1] at p
    simp only [if_neg c1] at q
    by_cases c2 : ¬ S 1 (80 + x) = 1
    · rw [if_pos c2, ex_hd hs] at p
      simp only [if_pos c2] at q
      exact mk_ex w (T := 2) (by omega) (by omega) rfl (e.trans p) q
    · rw [if_neg c2] at p
      simp only [if_neg c2] at q
      by_cases c3 : ¬ (S 1 1 ≤ 30 ∧ at' (S 1) x = -1)
      · rw [if_pos c3, ex_hd hs] at p
        simp only [if_pos c3] at q
        exact mk_ex w (T := 3) (by omega) (by omega) rfl (e.trans p) q
      · rw [if_neg c3] at p
        simp only [if_neg c3, up2_ur0] at q
        obtain ⟨D', p1, p2⟩ := p
        have b20 := I.b20
        exact mk_ok hs rng upd (e.trans p1) p2 ((Inv.blkS I (p := x) (v := 0) (by omega) (by omega) (Or.inl rfl) (by omega)).mono (by omega) (by omega) (by omega)) q trivial
noncomputable def pcY (Θ : mW) (N f : Nat) (i x : Int32) (h : mH) : Option ((Int32 ⊕ Nat) × mH) := bo (rA Θ h 0 f 0) (fun v3 => gO Θ h 1 v3 (P_D_takeCoins Θ N h v3 i x))
theorem in_pay {i x : Int} (hi : int' i) (hx : int' x) (hN : 2000 ≤ N) : INN Θ f m (tbl [10, 11, 12]) (fun _ => True) (pcY Θ N f (J i) (J x)) (fun h => P_R_pays Θ N h m (J i) (J x)) := by
  intro c h S bO c0 c1 w
  have I := w.ok.1
  obtain ⟨b, D, r0, hs, hd, -, rng, upd⟩ := (w.mono (c2 := c + 1) (by omega)).now
  have e : pcY Θ N f (J i) (J x) h = P_D_takeCoins Θ N h b (J i) (J x) := by
    unfold pcY
    rw [r0, bo_some, gO1 hs]
  have p := c_coins (N := N) hN hs.1 hd I hi.1 hi.2 hx.1 hx.2
  have q : ∀ h2, bOK Θ 9 m h2 → P_R_pays Θ N (HR Θ m S h2) m (J i) (J x) = some (J (payR S i x).1, HR Θ m (payR S i x).2 h2) := fun h2 hb => s_pays hN hb (Inv.ok I) hi.1 hi.2 hx.1 hx.2
  rw [hs.hd] at p
  unfold payR at q
  dsimp only at q
  by_cases c1 : fnd (S 1) i (mny (S 1)) = -1
  · rw [if_pos c1, ex_hd hs] at p
    simp only [if_pos c1] at q
    exact mk_ex w (T := 1) (by omega) (by omega) rfl (e.trans p) q
  · rw [if_neg c1] at p
    simp only [if_neg c1] at q
    by_cases c2 : ¬ (1 ≤ x ∧ x ≤ 999)
    · rw [if_pos c2, ex_hd hs] at p
      simp only [if_pos c2] at q
      exact mk_ex w (T := 2) (by omega) (by omega) rfl (e.trans p) q
    · rw [if_neg c2] at p
      simp only [if_neg c2] at q
      by_cases c3 : fd (S 1) (fnd (S 1) i (mny (S 1))) 8 < x
      · rw [if_pos c3, ex_hd hs] at p
        simp only [if_pos c3] at q
        exact mk_ex w (T := 3) (by omega) (by omega) rfl (e.trans p) q
      · rw [if_neg c3] at p
        simp only [if_neg c3, up2_ur0, up2_ur] at q
        obtain ⟨D', p1, p2⟩ := p
        have fl := fnd_lt I c1
        exact mk_ok hs rng upd (e.trans p1) p2 ((Inv.pay I fl.1 fl.2 (by omega) (by omega) (by omega)).mono (by omega) (by omega) (by omega)) q trivial
end IN
