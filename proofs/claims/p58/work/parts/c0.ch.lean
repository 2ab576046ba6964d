/-! the changes, of the class alone: an outcome is an answer and what is then so, or the number of an exception -/
abbrev Oc : Type := (Int × (Int → Int)) ⊕ Nat
def oc (r : Oc) : Int32 ⊕ Nat := match r with
  | .inl p => .inl (J p.1)
  | .inr n => .inr n
def ov (r : Oc) (V : Int → Int) : Int → Int := match r with
  | .inl p => p.2
  | .inr _ => V
/-- new cells: one where something is thrown -/
def xn (r : Oc) : Nat := match r with
  | .inl _ => 0
  | .inr _ => 1
/-- the step of a dock: what it answers, what it leaves -/
def IC1 (Θ : mW) (f : Nat) (c : Int) (h : mH) (S : Nat → Int → Int) (bO : (Int → Int) → Prop) (pc : Option ((Int32 ⊕ Nat) × mH)) (r : Oc) : Prop :=
  ∃ (S' : Nat → Int → Int) (h1 : mH), pc = some (oc r, h1) ∧ KX Θ f (c + 1) h1 S' bO ∧ Nx Θ h h1 (KR f) (xn r) (6 * xn r) ∧ S' 1 = ov r (S 1) ∧ (∀ a : Nat, a ≠ 0 → a ≠ 1 → S' a = S a) ∧ (∀ j : Int, j ≠ 8 → S' 0 j = S 0 j)
def ICN (Θ : mW) (f : Nat) (g : (Int → Int) → Oc) (pc : mH → Option ((Int32 ⊕ Nat) × mH)) : Prop := ∀ (c : Int) (h : mH) (S : Nat → Int → Int) (bO : (Int → Int) → Prop), 0 ≤ c → c ≤ 2000 → KX Θ f c h S bO → IC1 Θ f c h S bO (pc h) (g (S 1))
section CN
variable {Θ : mW} {N f b : Nat} {c : Int} {S : Nat → Int → Int} {h : mH} {bO : (Int → Int) → Prop} {D : Nat → Int → Int} {V : Int → Int} {pc : Option ((Int32 ⊕ Nat) × mH)} {g : (Int → Int) → Oc}
theorem nk_ex (w : KX Θ f c h S bO) {n : Nat} (hp : pc = some (.inr n, h ++ [oB n []])) : IC1 Θ f c h S bO pc (.inr n) :=
  ⟨S, h ++ [oB n []], hp, (w.mono (by omega)).nx (P := fun _ => False) Nx.ex (fun _ _ z => z), Nx.ex, rfl, fun _ _ _ => rfl, fun _ _ => rfl⟩
theorem nk_ok (hs : HB Θ shD b D h) (rng : f + 1 ≤ b ∧ b + 13 ≤ f + 133) (upd : ∀ (D' : Nat → Int → Int) (S2 : Nat → Int → Int), DV D' (S2 1) → In (c + 1) (S2 1) → Sm S (ur S2 (S 1)) → KX Θ f (c + 1) (HD Θ b D' h) S2 bO) {D' : Nat → Int → Int} {v : Int} (hp : pc = some (.inl (J v), HD Θ b D' h)) (hd : DV D' V) (I : In (c + 1) V) : IC1 Θ f c h S bO pc (.inl (v, V)) := by
  have e1 : ur S V 1 = V := if_pos rfl
  have e0 : ∀ a : Nat, a ≠ 1 → ur S V a = S a := fun a ha => if_neg ha
  have hL : shD.length = 13 := rfl
  refine ⟨ur S V, HD Θ b D' h, hp, upd D' _ (by rw [e1]; exact hd) (by rw [e1]; exact I) ?_, ((Nx.bk hs).wid (fun x _ p => ⟨by omega, by omega⟩) (Nat.le_refl _) (Nat.le_refl _)), e1, fun a a0 a1 => e0 a a1, fun j _ => by rw [e0 0 (by decide)]⟩
  have q : ur (ur S V) (S 1) = S := by
    funext a
    unfold ur
    by_cases z : a = 1
    · rw [if_pos z, z]
    · rw [if_neg z, if_neg z]
  rw [q]
  exact ⟨rfl, rfl, rfl, rfl, rfl, rfl, rfl, rfl⟩
theorem nk_rf (w : KX Θ f c h S bO) {y : Int} (y1 : 1 ≤ y) (y2 : y ≤ 4) (hp : pc = bo (wF Θ h 0 f 8 (.int (J y))) (fun h1 => some (.inr 13, h1 ++ [oB 13 []]))) : IC1 Θ f c h S bO pc (.inr 13) := by
  have e0 : ∀ a : Nat, a ≠ 0 → up2 S 0 8 y a = S a := fun a ha => up2_row ha
  have ej : ∀ j : Int, j ≠ 8 → up2 S 0 8 y 0 j = S 0 j := fun j h8 => up2_nj h8
  have e8 : up2 S 0 8 y 0 8 = y := up2_eq
  obtain ⟨h2, q1, q2, q3⟩ := (w.mono (c2 := c + 1) (by omega)).w (S2 := up2 S 0 8 y) (i := 8) (v := y) (Or.inl rfl) (fun z => by cases z) (by
    unfold KF
    rw [e8, ej 4 (by decide), ej 6 (by decide), ej 7 (by decide)]
    have : krf y = y := by unfold krf; rw [if_neg (by omega)]
    rw [this]
    simp [up2_at]) (ej 5 (by decide)) e0
  exact ⟨up2 S 0 8 y, h2 ++ [oB 13 []], by rw [hp, q1, bo_some]; rfl, q2.nx (P := fun _ => False) Nx.ex (fun _ _ z => z), ((q3.trans Nx.ex).up (Nat.le_refl _) (Nat.le_refl _)), e0 1 (by decide), fun a a0 _ => e0 a a0, ej⟩

def gAdd (l d t : Int) (V : Int → Int) : Oc := if ¬ ((5 ≤ l ∧ l ≤ 30) ∧ (5 ≤ d ∧ d ≤ 80) ∧ (0 ≤ t ∧ t ≤ 99)) then .inr 11 else if 8 ≤ V 4 then .inr 12 else .inl (V 5, addV V l d t)
def gRmv (i : Int) (V : Int → Int) : Oc := if fnd V i (mny V) = -1 then .inr 10 else if ¬ (fd V (fnd V i (mny V)) 4 = -1 ∧ fd V (fnd V i (mny V)) 8 = 0) then .inr 12 else .inl (fd V (fnd V i (mny V)) 3, rmvV V (fnd V i (mny V)))
def gEnt (i x : Int) (V : Int → Int) : Oc := if fnd V i (mny V) = -1 then .inr 10 else if ¬ ((0 ≤ x ∧ x ≤ 59) ∧ x ≤ 60 - fd V (fnd V i (mny V)) 1) then .inr 11 else if ¬ (fd V (fnd V i (mny V)) 4 = -1 ∧ V 2 = 1) then .inr 12 else if V 1 < fd V (fnd V i (mny V)) 2 + 2 then .inr 13 else if ¬ fre V x (fd V (fnd V i (mny V)) 1).toNat = 1 then .inr 13 else .inl (dct (plcV V (fnd V i (mny V)) x) (mny V), plcV V (fnd V i (mny V)) x)
def gLea (i : Int) (V : Int → Int) : Oc := if fnd V i (mny V) = -1 then .inr 10 else if ¬ (fd V (fnd V i (mny V)) 4 ≠ -1 ∧ V 2 = 1) then .inr 12 else if V 1 < fd V (fnd V i (mny V)) 2 then .inr 13 else if fd V (fnd V i (mny V)) 8 ≠ 0 then .inr 13 else .inl (dct (plcV V (fnd V i (mny V)) (-1)) (mny V), plcV V (fnd V i (mny V)) (-1))
def gCle (i x : Int) (V : Int → Int) : Oc := if fnd V i (mny V) = -1 then .inr 10 else if fd V (fnd V i (mny V)) 4 = -1 then .inr 12 else .inl (fd V (fnd V i (mny V)) 5, up1 V (8 + 9 * fnd V i (mny V) + 5) x)
def gGat (x : Int) (V : Int → Int) : Oc := if ¬ (x = 0 ∨ (-20 ≤ V 1 - sea (V 0) ∧ V 1 - sea (V 0) ≤ 20)) then .inr 13 else .inl (V 2, up1 V 2 x)
def gPum (x : Int) (V : Int → Int) : Oc := if ¬ (-30 ≤ x ∧ x ≤ 30) then .inr 11 else .inl (V 3, up1 V 3 x)
def gPas (x : Int) (V : Int → Int) : Oc := if 1 ≤ x ∧ x ≤ 48 then .inl ((wtO x.toNat 0 V).1, (wtO x.toNat 0 V).2) else .inr 11
def gLay (x : Int) (V : Int → Int) : Oc := if ¬ (0 ≤ x ∧ x ≤ 59) then .inr 11 else if ¬ (blk V 60 < 20 ∧ ¬ V (80 + x) = 1) then .inr 12 else if ¬ (V 1 ≤ 30 ∧ at' V x = -1) then .inr 13 else .inl (blk (up1 V (80 + x) 1) 60, up1 V (80 + x) 1)
def gTak (x : Int) (V : Int → Int) : Oc := if ¬ (0 ≤ x ∧ x ≤ 59) then .inr 11 else if ¬ V (80 + x) = 1 then .inr 10 else if ¬ (V 1 ≤ 30 ∧ at' V x = -1) then .inr 13 else .inl (blk (up1 V (80 + x) 0) 60, up1 V (80 + x) 0)
def gPay (i x : Int) (V : Int → Int) : Oc := if fnd V i (mny V) = -1 then .inr 10 else if ¬ (1 ≤ x ∧ x ≤ 999) then .inr 11 else if fd V (fnd V i (mny V)) 8 < x then .inr 12 else .inl (fd V (fnd V i (mny V)) 8 - x, payV V (fnd V i (mny V)) x)

theorem i_add {l d t : Int} (hl : int' l) (hd' : int' d) (ht : int' t) : ICN Θ f (gAdd l d t) (pcA Θ N f (J l) (J d) (J t)) := by
  intro c h S bO c0 c1 w
  have I := w.ok.1
  obtain ⟨b, D, r0, hs, hd, -, rng, upd⟩ := (w.mono (c2 := c + 1) (by omega)).now
  have e : pcA Θ N f (J l) (J d) (J t) h = P_L_register Θ N h (b + 1) (J l) (J d) (J t) := by
    unfold pcA
    rw [r0, bo_some, rA10 hs, bo_some, gO2 hs]
  have p := c_register (N := N) hs.1 hd I hl.1 hl.2 hd'.1 hd'.2 ht.1 ht.2
  rw [hs.hd] at p
  unfold gAdd
  by_cases c2 : ¬ ((5 ≤ l ∧ l ≤ 30) ∧ (5 ≤ d ∧ d ≤ 80) ∧ (0 ≤ t ∧ t ≤ 99))
  · rw [if_pos c2, ex_hd hs] at p
    rw [if_pos c2]
    exact nk_ex w (e.trans p)
  · rw [if_neg c2] at p
    rw [if_neg c2]
    by_cases c3 : 8 ≤ S 1 4
    · rw [if_pos c3, ex_hd hs] at p
      rw [if_pos c3]
      exact nk_ex w (e.trans p)
    · rw [if_neg c3] at p
      rw [if_neg c3]
      obtain ⟨D', p1, p2⟩ := p
      have c4 := Decidable.not_not.mp c2
      have h4 := I.h4
      exact nk_ok hs rng upd (e.trans p1) p2 ((Inv.add I (by omega) c4.1 c4.2.1 c4.2.2 (by omega)).mono (by omega) (by omega) (by omega))

theorem i_rmv {i : Int} (hi : int' i) (hN : 2000 ≤ N) : ICN Θ f (gRmv i) (pcR Θ N f (J i)) := by
  intro c h S bO c0 c1 w
  have I := w.ok.1
  obtain ⟨b, D, r0, hs, hd, -, rng, upd⟩ := (w.mono (c2 := c + 1) (by omega)).now
  have e : pcR Θ N f (J i) h = P_L_strike Θ N h (b + 1) (J i) := by
    unfold pcR
    rw [r0, bo_some, rA10 hs, bo_some, gO2 hs]
  have p := c_strike (N := N) hN hs.1 hd I hi.1 hi.2
  rw [hs.hd] at p
  unfold gRmv
  by_cases c2 : fnd (S 1) i (mny (S 1)) = -1
  · rw [if_pos c2, ex_hd hs] at p
    rw [if_pos c2]
    exact nk_ex w (e.trans p)
  · rw [if_neg c2] at p
    rw [if_neg c2]
    by_cases c3 : ¬ (fd (S 1) (fnd (S 1) i (mny (S 1))) 4 = -1 ∧ fd (S 1) (fnd (S 1) i (mny (S 1))) 8 = 0)
    · rw [if_pos c3, ex_hd hs] at p
      rw [if_pos c3]
      exact nk_ex w (e.trans p)
    · rw [if_neg c3] at p
      rw [if_neg c3]
      obtain ⟨D', p1, p2⟩ := p
      have c4 := Decidable.not_not.mp c3
      have fl := fnd_lt I c2
      exact nk_ok hs rng upd (e.trans p1) p2 ((Inv.rmv I fl.1 fl.2 c4.2).mono (by omega) (by omega) (by omega))

theorem i_cle {i x : Int} (hi : int' i) (hx : x = 0 ∨ x = 1) (hN : 2000 ≤ N) : ICN Θ f (gCle i x) (pcC Θ N f (J i) (J x)) := by
  intro c h S bO c0 c1 w
  have I := w.ok.1
  obtain ⟨b, D, r0, hs, hd, -, rng, upd⟩ := (w.mono (c2 := c + 1) (by omega)).now
  have e : pcC Θ N f (J i) (J x) h = P_D_switchCleaning Θ N h b (J i) (J x) := by
    unfold pcC
    rw [r0, bo_some, gO1 hs]
  have p := c_clean (N := N) hN hs.1 hd I hi.1 hi.2 hx
  rw [hs.hd] at p
  unfold gCle
  by_cases c2 : fnd (S 1) i (mny (S 1)) = -1
  · rw [if_pos c2, ex_hd hs] at p
    rw [if_pos c2]
    exact nk_ex w (e.trans p)
  · rw [if_neg c2] at p
    rw [if_neg c2]
    by_cases c3 : fd (S 1) (fnd (S 1) i (mny (S 1))) 4 = -1
    · rw [if_pos c3, ex_hd hs] at p
      rw [if_pos c3]
      exact nk_ex w (e.trans p)
    · rw [if_neg c3] at p
      rw [if_neg c3]
      obtain ⟨D', p1, p2⟩ := p
      have fl := fnd_lt I c2
      exact nk_ok hs rng upd (e.trans p1) p2 ((Inv.put I fl.1 fl.2 (Or.inr (Or.inl ⟨rfl, hx⟩)) (by omega)).mono (by omega) (by omega) (by omega))

theorem i_gat {x : Int} (hx : x = 0 ∨ x = 1) : ICN Θ f (gGat x) (pcG Θ N f (J x)) := by
  intro c h S bO c0 c1 w
  have I := w.ok.1
  obtain ⟨b, D, r0, hs, hd, -, rng, upd⟩ := (w.mono (c2 := c + 1) (by omega)).now
  have e : pcG Θ N f (J x) h = P_D_moveGate Θ N h b (J x) := by
    unfold pcG
    rw [r0, bo_some, gO1 hs]
  have p := c_gate (N := N) hs.1 hd I (by omega) hx
  rw [hs.hd] at p
  unfold gGat
  by_cases c2 : ¬ (x = 0 ∨ (-20 ≤ S 1 1 - sea (S 1 0) ∧ S 1 1 - sea (S 1 0) ≤ 20))
  · rw [if_pos c2, ex_hd hs] at p
    rw [if_pos c2]
    exact nk_ex w (e.trans p)
  · rw [if_neg c2] at p
    rw [if_neg c2]
    exact nk_ok hs rng upd (e.trans p) hd.u2 ((Inv.low I (c := 2) (v := x) (H' := 48 * c + 3) (Or.inr (Or.inr (Or.inl ⟨rfl, hx, rfl⟩))) (by omega)).mono (by omega) (by omega) (by omega))

theorem i_pum {x : Int} (hx : int' x) : ICN Θ f (gPum x) (pcP Θ N f (J x)) := by
  intro c h S bO c0 c1 w
  have I := w.ok.1
  obtain ⟨b, D, r0, hs, hd, -, rng, upd⟩ := (w.mono (c2 := c + 1) (by omega)).now
  have e : pcP Θ N f (J x) h = P_D_changeRate Θ N h b (J x) := by
    unfold pcP
    rw [r0, bo_some, gO1 hs]
  have p := c_rate (N := N) hs.1 hd hx.1 hx.2
  rw [hs.hd] at p
  unfold gPum
  by_cases c2 : ¬ (-30 ≤ x ∧ x ≤ 30)
  · rw [if_pos c2, ex_hd hs] at p
    rw [if_pos c2]
    exact nk_ex w (e.trans p)
  · rw [if_neg c2] at p
    rw [if_neg c2]
    exact nk_ok hs rng upd (e.trans p) hd.u3 ((Inv.low I (c := 3) (v := x) (H' := 48 * c + 3) (Or.inr (Or.inr (Or.inr ⟨rfl, by omega, by omega, rfl⟩))) (by omega)).mono (by omega) (by omega) (by omega))

theorem i_wai {x : Int} (hx : int' x) (hN : 2000 ≤ N) : ICN Θ f (gPas x) (pcW Θ N f (J x)) := by
  intro c h S bO c0 c1 w
  have I := w.ok.1
  obtain ⟨b, D, r0, hs, hd, -, rng, upd⟩ := (w.mono (c2 := c + 1) (by omega)).now
  have e : pcW Θ N f (J x) h = P_D_letPass Θ N h b (J x) := by
    unfold pcW
    rw [r0, bo_some, gO1 hs]
  have p := c_letPass (N := N) hN hs.1 hd I (by omega) (by omega) hx.1 hx.2
  rw [hs.hd] at p
  unfold gPas
  by_cases c2 : 1 ≤ x ∧ x ≤ 48
  · rw [if_pos c2] at p
    rw [if_pos c2]
    obtain ⟨D', p1, p2⟩ := p
    have o := (wtO_inv x.toNat (11904 * c) (48 * c + 3) (S 1) 0 I (by omega) (by omega)).1
    exact nk_ok hs rng upd (e.trans p1) p2 (o.mono (by omega) (by omega) (by omega))
  · rw [if_neg c2, ex_hd hs] at p
    rw [if_neg c2]
    exact nk_ex w (e.trans p)
theorem i_lay {x : Int} (hx : int' x) (hN : 2000 ≤ N) : ICN Θ f (gLay x) (pcB Θ N f (J x)) := by
  intro c h S bO c0 c1 w
  have I := w.ok.1
  obtain ⟨b, D, r0, hs, hd, -, rng, upd⟩ := (w.mono (c2 := c + 1) (by omega)).now
  have e : pcB Θ N f (J x) h = P_D_addBlock Θ N h b (J x) := by
    unfold pcB
    rw [r0, bo_some, gO1 hs]
  have p := c_addBlock (N := N) hN hs.1 hd I hx.1 hx.2
  rw [hs.hd] at p
  unfold gLay
  by_cases c2 : ¬ (0 ≤ x ∧ x ≤ 59)
  · rw [if_pos c2, ex_hd hs] at p
    rw [if_pos c2]
    exact nk_ex w (e.trans p)
  · rw [if_neg c2] at p
    rw [if_neg c2]
    by_cases c3 : ¬ (blk (S 1) 60 < 20 ∧ ¬ S 1 (80 + x) = 1)
    · rw [if_pos c3, ex_hd hs] at p
      rw [if_pos c3]
      exact nk_ex w (e.trans p)
    · rw [if_neg c3] at p
      rw [if_neg c3]
      by_cases c4 : ¬ (S 1 1 ≤ 30 ∧ at' (S 1) x = -1)
      · rw [if_pos c4, ex_hd hs] at p
        rw [if_pos c4]
        exact nk_ex w (e.trans p)
      · rw [if_neg c4] at p
        rw [if_neg c4]
        obtain ⟨D', p1, p2⟩ := p
        have c5 := Decidable.not_not.mp c2
        have c6 := Decidable.not_not.mp c3
        have z := I.bl x (by omega) (by omega)
        exact nk_ok hs rng upd (e.trans p1) p2 ((Inv.blkS I (by omega) (by omega) (Or.inr rfl) (by omega)).mono (by omega) (by omega) (by omega))

theorem i_tak {x : Int} (hx : int' x) (hN : 2000 ≤ N) : ICN Θ f (gTak x) (pcU Θ N f (J x)) := by
  intro c h S bO c0 c1 w
  have I := w.ok.1
  obtain ⟨b, D, r0, hs, hd, -, rng, upd⟩ := (w.mono (c2 := c + 1) (by omega)).now
  have e : pcU Θ N f (J x) h = P_D_takeBlock Θ N h b (J x) := by
    unfold pcU
    rw [r0, bo_some, gO1 hs]
  have p := c_takeBlock (N := N) hN hs.1 hd I hx.1 hx.2
  rw [hs.hd] at p
  unfold gTak
  by_cases c2 : ¬ (0 ≤ x ∧ x ≤ 59)
  · rw [if_pos c2, ex_hd hs] at p
    rw [if_pos c2]
    exact nk_ex w (e.trans p)
  · rw [if_neg c2] at p
    rw [if_neg c2]
    by_cases c3 : ¬ S 1 (80 + x) = 1
    · rw [if_pos c3, ex_hd hs] at p
      rw [if_pos c3]
      exact nk_ex w (e.trans p)
    · rw [if_neg c3] at p
      rw [if_neg c3]
      by_cases c4 : ¬ (S 1 1 ≤ 30 ∧ at' (S 1) x = -1)
      · rw [if_pos c4, ex_hd hs] at p
        rw [if_pos c4]
        exact nk_ex w (e.trans p)
      · rw [if_neg c4] at p
        rw [if_neg c4]
        obtain ⟨D', p1, p2⟩ := p
        have c5 := Decidable.not_not.mp c2
        have c6 := Decidable.not_not.mp c3
        have b20 := I.b20
        exact nk_ok hs rng upd (e.trans p1) p2 ((Inv.blkS I (by omega) (by omega) (Or.inl rfl) (by omega)).mono (by omega) (by omega) (by omega))

theorem i_pay {i x : Int} (hi : int' i) (hx : int' x) (hN : 2000 ≤ N) : ICN Θ f (gPay i x) (pcY Θ N f (J i) (J x)) := by
  intro c h S bO c0 c1 w
  have I := w.ok.1
  obtain ⟨b, D, r0, hs, hd, -, rng, upd⟩ := (w.mono (c2 := c + 1) (by omega)).now
  have e : pcY Θ N f (J i) (J x) h = P_D_takeCoins Θ N h b (J i) (J x) := by
    unfold pcY
    rw [r0, bo_some, gO1 hs]
  have p := c_coins (N := N) hN hs.1 hd I hi.1 hi.2 hx.1 hx.2
  rw [hs.hd] at p
  unfold gPay
  by_cases c2 : fnd (S 1) i (mny (S 1)) = -1
  · rw [if_pos c2, ex_hd hs] at p
    rw [if_pos c2]
    exact nk_ex w (e.trans p)
  · rw [if_neg c2] at p
    rw [if_neg c2]
    by_cases c3 : ¬ (1 ≤ x ∧ x ≤ 999)
    · rw [if_pos c3, ex_hd hs] at p
      rw [if_pos c3]
      exact nk_ex w (e.trans p)
    · rw [if_neg c3] at p
      rw [if_neg c3]
      by_cases c4 : fd (S 1) (fnd (S 1) i (mny (S 1))) 8 < x
      · rw [if_pos c4, ex_hd hs] at p
        rw [if_pos c4]
        exact nk_ex w (e.trans p)
      · rw [if_neg c4] at p
        rw [if_neg c4]
        obtain ⟨D', p1, p2⟩ := p
        have c5 := Decidable.not_not.mp c3
        have fl := fnd_lt I c2
        exact nk_ok hs rng upd (e.trans p1) p2 ((Inv.pay I fl.1 fl.2 (by omega) (by omega) (by omega)).mono (by omega) (by omega) (by omega))

theorem i_ent {i x : Int} (hi : int' i) (hx : int' x) (hN : 2000 ≤ N) : ICN Θ f (gEnt i x) (pcE Θ N f (J i) (J x)) := by
  intro c h S bO c0 c1 w
  have I := w.ok.1
  have hO := fun (p : Option ((Int32 ⊕ Nat) × mH)) => w.gO (p := p)
  obtain ⟨b, D, r0, hs, hd, -, rng, upd⟩ := (w.mono (c2 := c + 1) (by omega)).now
  have p := c_entry (N := N) hN hs.1 hd I hi.1 hi.2 hx.1 hx.2
  rw [hs.hd, ex_hd hs, ex_hd hs, ex_hd hs] at p
  have e : pcE Θ N f (J i) (J x) h = bx (P_D_entryRefusal Θ N h b (J i) (J x)) (fun v3 h2 => gO Θ h2 0 f (bx (P_F_refuseFor Θ N h2 f v3) (fun _ h4 => bo (rA Θ h4 0 f 0) (fun v6 => gO Θ h4 1 v6 (bx (P_D_moor Θ N h4 v6 (J i) (J x)) (fun v8 h7 => some (.inl v8, h7)) (fun n9 h9 => xp n9 h9)))) (fun n9 h9 => xp n9 h9))) (fun n9 h9 => xp n9 h9) := by
    unfold pcE P_F_letIn
    rw [hO, r0, bo_some, gO1 hs]
  rw [p] at e
  unfold gEnt
  by_cases c1 : fnd (S 1) i (mny (S 1)) = -1
  · simp only [if_pos c1] at e ⊢
    exact nk_ex w e
  · simp only [if_neg c1] at e ⊢
    by_cases c2 : ¬ ((0 ≤ x ∧ x ≤ 59) ∧ x ≤ 60 - fd (S 1) (fnd (S 1) i (mny (S 1))) 1)
    · simp only [if_pos c2] at e ⊢
      exact nk_ex w e
    · simp only [if_neg c2] at e ⊢
      by_cases c3 : ¬ (fd (S 1) (fnd (S 1) i (mny (S 1))) 4 = -1 ∧ S 1 2 = 1)
      · simp only [if_pos c3] at e ⊢
        exact nk_ex w e
      · simp only [if_neg c3] at e ⊢
        by_cases c4 : S 1 1 < fd (S 1) (fnd (S 1) i (mny (S 1))) 2 + 2
        · simp only [if_pos c4] at e ⊢
          refine nk_rf w (y := 1) (by omega) (by omega) (e.trans ?_)
          rw [bx_inl, hO]
          unfold P_F_refuseFor
          rw [if_neg (show ¬ J 1 = (0 : Int32) by decide)]
          cases wF Θ h 0 f 8 (.int (J 1)) <;> rfl
        · simp only [if_neg c4] at e ⊢
          by_cases c5 : ¬ fre (S 1) x (fd (S 1) (fnd (S 1) i (mny (S 1))) 1).toNat = 1
          · simp only [if_pos c5] at e ⊢
            refine nk_rf w (y := 2) (by omega) (by omega) (e.trans ?_)
            rw [bx_inl, hO]
            unfold P_F_refuseFor
            rw [if_neg (show ¬ J 2 = (0 : Int32) by decide)]
            cases wF Θ h 0 f 8 (.int (J 2)) <;> rfl
          · simp only [if_neg c5] at e ⊢
            have fl := fnd_lt I c1
            have sh := I.sh _ fl.1 fl.2
            unfold shOK at sh
            have c2' := Decidable.not_not.mp c2
            have fr := (fre_iff2 I (a := x) (l := fd (S 1) (fnd (S 1) i (mny (S 1))) 1) (by omega)).mp (Decidable.not_not.mp c5)
            have I2 := Inv.plc I fl.1 fl.2 (p := x) (Or.inr ⟨by omega, by omega, fun k k0 k1 kn k4 => by have := fr k k0 k1 k4; omega⟩)
            obtain ⟨D', p1, p2⟩ := c_moor (N := N) hN hs.1 hd I hi.1 hi.2 c1 I2
            rw [hs.hd] at p1
            refine nk_ok hs rng upd (v := dct (plcV (S 1) (fnd (S 1) i (mny (S 1))) x) (mny (S 1))) (e.trans ?_) p2 (I2.mono (by omega) (by omega) (by omega))
            rw [bx_inl, hO]
            unfold P_F_refuseFor
            rw [if_pos (show J 0 = (0 : Int32) from rfl), bx_inl, r0, bo_some, gO1 hs, p1, bx_inl]
theorem i_lea {i : Int} (hi : int' i) (hN : 2000 ≤ N) : ICN Θ f (gLea i) (pcL Θ N f (J i)) := by
  intro c h S bO c0 c1 w
  have I := w.ok.1
  have hO := fun (p : Option ((Int32 ⊕ Nat) × mH)) => w.gO (p := p)
  obtain ⟨b, D, r0, hs, hd, -, rng, upd⟩ := (w.mono (c2 := c + 1) (by omega)).now
  have p := c_leaveR (N := N) hN hs.1 hd I hi.1 hi.2
  rw [hs.hd, ex_hd hs, ex_hd hs] at p
  have e : pcL Θ N f (J i) h = bx (P_D_leaveRefusal Θ N h b (J i)) (fun v3 h2 => gO Θ h2 0 f (bx (P_F_refuseFor Θ N h2 f v3) (fun _ h4 => bo (rA Θ h4 0 f 0) (fun v6 => gO Θ h4 1 v6 (bx (P_D_castOff Θ N h4 v6 (J i)) (fun v8 h7 => some (.inl v8, h7)) (fun n9 h9 => xp n9 h9)))) (fun n9 h9 => xp n9 h9))) (fun n9 h9 => xp n9 h9) := by
    unfold pcL P_F_letOut
    rw [hO, r0, bo_some, gO1 hs]
  rw [p] at e
  unfold gLea
  by_cases c1 : fnd (S 1) i (mny (S 1)) = -1
  · simp only [if_pos c1] at e ⊢
    exact nk_ex w e
  · simp only [if_neg c1] at e ⊢
    by_cases c2 : ¬ (fd (S 1) (fnd (S 1) i (mny (S 1))) 4 ≠ -1 ∧ S 1 2 = 1)
    · simp only [if_pos c2] at e ⊢
      exact nk_ex w e
    · simp only [if_neg c2] at e ⊢
      by_cases c4 : S 1 1 < fd (S 1) (fnd (S 1) i (mny (S 1))) 2
      · simp only [if_pos c4] at e ⊢
        refine nk_rf w (y := 3) (by omega) (by omega) (e.trans ?_)
        rw [bx_inl, hO]
        unfold P_F_refuseFor
        rw [if_neg (show ¬ J 3 = (0 : Int32) by decide)]
        cases wF Θ h 0 f 8 (.int (J 3)) <;> rfl
      · simp only [if_neg c4] at e ⊢
        by_cases c5 : fd (S 1) (fnd (S 1) i (mny (S 1))) 8 ≠ 0
        · simp only [if_pos c5] at e ⊢
          refine nk_rf w (y := 4) (by omega) (by omega) (e.trans ?_)
          rw [bx_inl, hO]
          unfold P_F_refuseFor
          rw [if_neg (show ¬ J 4 = (0 : Int32) by decide)]
          cases wF Θ h 0 f 8 (.int (J 4)) <;> rfl
        · simp only [if_neg c5] at e ⊢
          have fl := fnd_lt I c1
          have I2 := Inv.plc I fl.1 fl.2 (p := -1) (Or.inl rfl)
          obtain ⟨D', p1, p2⟩ := c_castOff (N := N) hN hs.1 hd I hi.1 hi.2 c1 I2
          rw [hs.hd] at p1
          refine nk_ok hs rng upd (v := dct (plcV (S 1) (fnd (S 1) i (mny (S 1))) (-1)) (mny (S 1))) (e.trans ?_) p2 (I2.mono (by omega) (by omega) (by omega))
          rw [bx_inl, hO]
          unfold P_F_refuseFor
          rw [if_pos (show J 0 = (0 : Int32) from rfl), bx_inl, r0, bo_some, gO1 hs, p1, bx_inl]
end CN
/-- a change of the face -/
def FC (Θ : mW) (f : Nat) (c : Int) (h : mH) (S : Nat → Int → Int) (pf : Option ((Int32 ⊕ Nat) × mH)) (r : Oc) : Prop :=
  ∃ (S' : Nat → Int → Int) (h1 : mH), pf = some (oc r, h1) ∧ KX Θ f (c + 1) h1 S' (fun _ => False) ∧ Nx Θ h h1 (KR f) (xn r) (6 * xn r) ∧ S' 1 = ov r (S 1) ∧ S' 3 = S 3 ∧ S' 0 4 = S 0 4
section CF9
variable {Θ : mW} {N f : Nat} {c : Int} {S : Nat → Int → Int} {h : mH} {bO : (Int → Int) → Prop} {g : (Int → Int) → Oc} {pc : mH → Option ((Int32 ⊕ Nat) × mH)}
theorem fc_op (hN : 2000 ≤ N) (c0 : 0 ≤ c) (c1 : c ≤ 2000) (ii : ICN Θ f g pc) (w : KX Θ f c h S bO) {fin : Int32 → mH → Option ((Int32 ⊕ Nat) × mH)} (hf : ∀ (v : Int) (hh : mH) (V' : Int → Int), g (S 1) = .inl (v, V') → fin (J v) hh = some (.inl (J v), hh)) : FC Θ f c h S (gO Θ h 0 f (bc (P_F_startChange Θ N h f) (fun _ h1 => bx (pc h1) (fun v6 h5 => gO Θ h5 0 f (bc (P_F_keepChange Θ N h5 f) (fun _ h7 => fin v6 h7))) (fun n9 h9 => xp n9 h9)))) (g (S 1)) := by
  obtain ⟨h1, a1, a2, a3⟩ := k_start (N := N) hN w
  have c2 : ∀ i : Nat, i ≠ 2 → cpy S 1 0 2 0 140 i = S i := fun i hi => cpy_r hi
  have a4 := a2.sm (S2 := cpy S 1 0 2 0 140) ⟨by rw [c2 0 (by decide)], by rw [c2 0 (by decide)], by rw [c2 0 (by decide)], by rw [c2 0 (by decide)], by rw [c2 0 (by decide)], c2 1 (by decide), c2 3 (by decide), c2 4 (by decide)⟩
  obtain ⟨S2, h3, b1, b2, b3, b4, b5, b6⟩ := ii _ h1 _ _ c0 c1 a4
  rw [c2 1 (by decide)] at b1 b3 b4
  have e2 : ∀ j : Int, 0 ≤ j → j < 140 → S2 2 j = S 1 j := fun j j0 j1 => by
    rw [b5 2 (by decide) (by decide), cpy_at, if_pos (by omega)]
    exact congrArg (S 1) (by omega)
  have e3 : S2 3 = S 3 := (b5 3 (by decide) (by decide)).trans (c2 3 (by decide))
  have e04 : S2 0 4 = S 0 4 := (b6 4 (by decide)).trans (by rw [c2 0 (by decide)])
  cases hg : g (S 1) with
  | inl p =>
    obtain ⟨v, V'⟩ := p
    rw [hg] at b1 b3 b4
    obtain ⟨h5, d1, d2, d3⟩ := k_keep (N := N) b2 e2
    refine ⟨remR S2, h5, ?_, d2, ((a3.trans b3).trans d3).up (by omega) (by omega), (remR_o (by decide) (by decide)).trans b4, (remR_o (by decide) (by decide)).trans e3, (remR_0 (by decide)).trans e04⟩
    rw [w.gO, a1, bc_some, b1]
    show bx (some (.inl (J v), h3)) _ _ = _
    rw [bx_inl, b2.gO, d1, bc_some, hf v h5 V' hg]
    rfl
  | inr n =>
    rw [hg] at b1 b3 b4
    refine ⟨S2, h3, ?_, b2.forget, (a3.trans b3).up (by omega) (by omega), b4, e3, e04⟩
    rw [w.gO, a1, bc_some, b1]
    rfl

theorem x_add {l d t : Int} (hl : int' l) (hd : int' d) (ht : int' t) (hN : 2000 ≤ N) (c0 : 0 ≤ c) (c1 : c ≤ 2000) (w : KX Θ f c h S bO) : FC Θ f c h S (P_F_addShip Θ N h f (J l) (J d) (J t)) (gAdd l d t (S 1)) := by
  have e := fc_op (N := N) hN c0 c1 (i_add (N := N) hl hd ht) w (fin := fun v hh => some (.inl v, hh)) (fun _ _ _ _ => rfl)
  unfold P_F_addShip
  simp only [gO_bx, bo_bx]
  exact e
theorem x_rmv {i : Int} (hi : int' i) (hN : 2000 ≤ N) (c0 : 0 ≤ c) (c1 : c ≤ 2000) (w : KX Θ f c h S bO) : FC Θ f c h S (P_F_removeShip Θ N h f (J i)) (gRmv i (S 1)) := by
  have e := fc_op (N := N) hN c0 c1 (i_rmv hi hN) w (fin := fun v hh => some (.inl v, hh)) (fun _ _ _ _ => rfl)
  unfold P_F_removeShip
  simp only [gO_bx, bo_bx]
  exact e
theorem x_ent {i x : Int} (hi : int' i) (hx : int' x) (hN : 2000 ≤ N) (c0 : 0 ≤ c) (c1 : c ≤ 2000) (w : KX Θ f c h S bO) : FC Θ f c h S (P_F_enter Θ N h f (J i) (J x)) (gEnt i x (S 1)) := by
  have e := fc_op (N := N) hN c0 c1 (i_ent hi hx hN) w (fin := fun v hh => some (.inl v, hh)) (fun _ _ _ _ => rfl)
  unfold P_F_enter
  simp only [gO_bx, bo_bx]
  exact e
theorem x_lea {i : Int} (hi : int' i) (hN : 2000 ≤ N) (c0 : 0 ≤ c) (c1 : c ≤ 2000) (w : KX Θ f c h S bO) : FC Θ f c h S (P_F_leave Θ N h f (J i)) (gLea i (S 1)) := by
  have e := fc_op (N := N) hN c0 c1 (i_lea hi hN) w (fin := fun v hh => some (.inl v, hh)) (fun _ _ _ _ => rfl)
  unfold P_F_leave
  simp only [gO_bx, bo_bx]
  exact e
theorem x_pum {i : Int} (hi : int' i) (hN : 2000 ≤ N) (c0 : 0 ≤ c) (c1 : c ≤ 2000) (w : KX Θ f c h S bO) : FC Θ f c h S (P_F_setPump Θ N h f (J i)) (gPum i (S 1)) := by
  have e := fc_op (N := N) hN c0 c1 (i_pum (N := N) hi) w (fin := fun v hh => some (.inl v, hh)) (fun _ _ _ _ => rfl)
  unfold P_F_setPump
  simp only [gO_bx, bo_bx]
  exact e
theorem x_pas {i : Int} (hi : int' i) (hN : 2000 ≤ N) (c0 : 0 ≤ c) (c1 : c ≤ 2000) (w : KX Θ f c h S bO) : FC Θ f c h S (P_F_pass Θ N h f (J i)) (gPas i (S 1)) := by
  have e := fc_op (N := N) hN c0 c1 (i_wai hi hN) w (fin := fun v hh => some (.inl v, hh)) (fun _ _ _ _ => rfl)
  unfold P_F_pass
  simp only [gO_bx, bo_bx]
  exact e
theorem x_plb {i : Int} (hi : int' i) (hN : 2000 ≤ N) (c0 : 0 ≤ c) (c1 : c ≤ 2000) (w : KX Θ f c h S bO) : FC Θ f c h S (P_F_placeBlock Θ N h f (J i)) (gLay i (S 1)) := by
  have e := fc_op (N := N) hN c0 c1 (i_lay hi hN) w (fin := fun v hh => some (.inl v, hh)) (fun _ _ _ _ => rfl)
  unfold P_F_placeBlock
  simp only [gO_bx, bo_bx]
  exact e
theorem x_rmb {i : Int} (hi : int' i) (hN : 2000 ≤ N) (c0 : 0 ≤ c) (c1 : c ≤ 2000) (w : KX Θ f c h S bO) : FC Θ f c h S (P_F_removeBlock Θ N h f (J i)) (gTak i (S 1)) := by
  have e := fc_op (N := N) hN c0 c1 (i_tak hi hN) w (fin := fun v hh => some (.inl v, hh)) (fun _ _ _ _ => rfl)
  unfold P_F_removeBlock
  simp only [gO_bx, bo_bx]
  exact e
theorem x_pay {i x : Int} (hi : int' i) (hx : int' x) (hN : 2000 ≤ N) (c0 : 0 ≤ c) (c1 : c ≤ 2000) (w : KX Θ f c h S bO) : FC Θ f c h S (P_F_pay Θ N h f (J i) (J x)) (gPay i x (S 1)) := by
  have e := fc_op (N := N) hN c0 c1 (i_pay hi hx hN) w (fin := fun v hh => some (.inl v, hh)) (fun _ _ _ _ => rfl)
  unfold P_F_pay
  simp only [gO_bx, bo_bx]
  exact e
theorem fin_b {v : Int} {hh : mH} (hv : v = 0 ∨ v = 1) : (if J v = J 0 ∨ J v = J 1 then some ((Sum.inl (J v) : Int32 ⊕ Nat), hh) else none) = some (.inl (J v), hh) := by
  rcases hv with rfl | rfl
  · rw [if_pos (Or.inl rfl)]
  · rw [if_pos (Or.inr rfl)]
theorem x_cle {i x : Int} (hi : int' i) (hx : x = 0 ∨ x = 1) (hN : 2000 ≤ N) (c0 : 0 ≤ c) (c1 : c ≤ 2000) (w : KX Θ f c h S bO) : FC Θ f c h S (P_F_setCleaning Θ N h f (J i) (J x)) (gCle i x (S 1)) := by
  have I := w.ok.1
  have e := fc_op (N := N) hN c0 c1 (i_cle hi hx hN) w (fin := fun v hh => if v = J 0 ∨ v = J 1 then some (.inl v, hh) else none) (fun v hh V' hg => fin_b (by
    unfold gCle at hg
    by_cases z1 : fnd (S 1) i (mny (S 1)) = -1
    · rw [if_pos z1] at hg; cases hg
    · rw [if_neg z1] at hg
      by_cases z2 : fd (S 1) (fnd (S 1) i (mny (S 1))) 4 = -1
      · rw [if_pos z2] at hg; cases hg
      · rw [if_neg z2] at hg
        cases hg
        have fl := fnd_lt I z1
        have s := I.sh _ fl.1 fl.2
        unfold shOK at s
        exact s.2.2.2.2.2.1))
  unfold P_F_setCleaning
  simp only [gO_bx, bo_bx]
  exact e
theorem x_gat {x : Int} (hx : x = 0 ∨ x = 1) (hN : 2000 ≤ N) (c0 : 0 ≤ c) (c1 : c ≤ 2000) (w : KX Θ f c h S bO) : FC Θ f c h S (P_F_setGate Θ N h f (J x)) (gGat x (S 1)) := by
  have I := w.ok.1
  have e := fc_op (N := N) hN c0 c1 (i_gat (N := N) hx) w (fin := fun v hh => if v = J 0 ∨ v = J 1 then some (.inl v, hh) else none) (fun v hh V' hg => fin_b (by
    unfold gGat at hg
    by_cases z1 : ¬ (x = 0 ∨ (-20 ≤ S 1 1 - sea (S 1 0) ∧ S 1 1 - sea (S 1 0) ≤ 20))
    · rw [if_pos z1] at hg; cases hg
    · rw [if_neg z1] at hg
      cases hg
      exact I.h2))
  unfold P_F_setGate
  simp only [gO_bx, bo_bx]
  exact e
end CF9
