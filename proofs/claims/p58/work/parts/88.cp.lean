/-! a dock is copied into another -/
section CP
variable {Θ : mW} {N b b1 : Nat} {D D1 : Nat → Int → Int} {V : Int → Int} {h : mH} {G H M : Int}
/-- rows are a permutation -/
def PM (D : Nat → Int → Int) : Prop := (∀ k : Int, 0 ≤ k → k < 8 → 0 ≤ D 2 k ∧ D 2 k < 8) ∧ (∀ k l : Int, 0 ≤ k → k < 8 → 0 ≤ l → l < 8 → D 2 k = D 2 l → k = l)
theorem DV.pm (hd : DV D V) : PM D := hd.2.1
theorem PM.rlt (d : PM D) {k : Int} (h0 : 0 ≤ k) (h1 : k < 8) : ro D k < 8 := by
  have := d.1 k h0 h1
  unfold ro
  omega
theorem PM.inj (d : PM D) {k l : Int} (h0 : 0 ≤ k) (h1 : k < 8) (h2 : 0 ≤ l) (h3 : l < 8) (he : ro D k = ro D l) : k = l := by
  have a := d.1 k h0 h1
  have b := d.1 l h2 h3
  unfold ro at he
  exact d.2 k l h0 h1 h2 h3 (by omega)
theorem HB.hd (hs : HB Θ shD b D h) : HD Θ b D h = h := hs.2
theorem HB.xI {L : List Sh} {i ci k : Nat} {ks : List (Option (Option Nat))} (hs : HB Θ L b D h) (hi : L[i]? = some (.inl (ci, ks))) (hk : ks[k]? = some none) : rI Θ h ci (b + i) k = some (J (D i k)) := by
  have := g_rI hi hk hs.1 (D := D)
  rwa [hs.2] at this
theorem HB.xA {L : List Sh} {i ci k r : Nat} {ks : List (Option (Option Nat))} (hs : HB Θ L b D h) (hi : L[i]? = some (.inl (ci, ks))) (hk : ks[k]? = some (some (some r))) : rA Θ h ci (b + i) k = some (b + r) := by
  have := g_rA hi hk hs.1 (D := D)
  rwa [hs.2] at this
theorem HB.xB {L : List Sh} {i ci k : Nat} {ks : List (Option (Option Nat))} (hs : HB Θ L b D h) (hi : L[i]? = some (.inl (ci, ks))) (hk : ks[k]? = some (some none)) : rA Θ h ci (b + i) k = some (D i k).toNat := by
  have := g_rB hi hk hs.1 (D := D)
  rwa [hs.2] at this
theorem HB.xQ {L : List Sh} {i t n r : Nat} {x : Int} (hs : HB Θ L b D h) (hi : L[i]? = some (.inr (.inr (t, n, some r)))) (hn : n ≤ 2147483647) (h0 : 0 ≤ x) (h1 : x < n) : aRQ Θ h t (b + i) (J x) = some (b + r + (D i x).toNat) := by
  have := g_aRQ hi hn hs.1 h0 h1 (D := D)
  rwa [hs.2] at this
theorem HB.xO {L : List Sh} {i ci : Nat} {ks : List (Option (Option Nat))} {ρ : Type} {p : Option ρ} (hs : HB Θ L b D h) (hi : L[i]? = some (.inl (ci, ks))) : gO Θ h ci (b + i) p = p := by
  have := g_gO (D := D) (p := p) hi hs.1
  rwa [hs.2] at this
/-- the rows' numbers after j of them -/
def CR (D0 D1 D : Nat → Int → Int) (j : Int) : Prop := (∀ a : Nat, a < 3 ∨ 11 ≤ a → D a = D0 a) ∧ (∀ k : Int, 0 ≤ k → k < j → ∀ i : Int, 0 ≤ i → i ≤ 8 → D (3 + ro D0 k) i = D1 (3 + ro D1 k) i)
theorem c_copyShip (hb : bOK Θ 13 b h) (hs : HB Θ shD b1 D1 h) (hx : b + 13 ≤ b1 ∨ b1 + 13 ≤ b) {s s1 : Nat} (h1 : s < 8) (h2 : s1 < 8) (h8 : D1 (3 + s1) 8 = 0 ∨ D1 (3 + s1) 8 = 1) : ∃ D', P_S_copyFrom Θ N (HD Θ b D h) (b + 3 + s) (b1 + 3 + s1) = some ((), HD Θ b D' h) ∧ (∀ a : Nat, a ≠ 3 + s → D' a = D a) ∧ (∀ i : Int, 0 ≤ i → i ≤ 8 → D' (3 + s) i = D1 (3 + s1) i) := by
  have hL : shD.length = 13 := rfl
  have e : ∀ (D2 : Nat → Int → Int) (k : Nat), k < 9 → rI Θ (HD Θ b D2 h) 3 (b1 + 3 + s1) k = some (J (D1 (3 + s1) k)) := fun D2 k hk => by
    have hs2 : HB Θ shD b1 D1 (HD Θ b D2 h) := hs.other hb (by rw [hL]; omega)
    rw [Nat.add_assoc]
    refine HB.xI hs2 (shD_s h2) ?_
    have : k = 0 ∨ k = 1 ∨ k = 2 ∨ k = 3 ∨ k = 4 ∨ k = 5 ∨ k = 6 ∨ k = 7 ∨ k = 8 := by omega
    rcases this with rfl | rfl | rfl | rfl | rfl | rfl | rfl | rfl | rfl <;> rfl
  have e0 : ∀ D2, rI Θ (HD Θ b D2 h) 3 (b1 + 3 + s1) 0 = some (J (D1 (3 + s1) 0)) := fun D2 => e D2 0 (by omega)
  have e1 : ∀ D2, rI Θ (HD Θ b D2 h) 3 (b1 + 3 + s1) 1 = some (J (D1 (3 + s1) 1)) := fun D2 => e D2 1 (by omega)
  have e2 : ∀ D2, rI Θ (HD Θ b D2 h) 3 (b1 + 3 + s1) 2 = some (J (D1 (3 + s1) 2)) := fun D2 => e D2 2 (by omega)
  have e3 : ∀ D2, rI Θ (HD Θ b D2 h) 3 (b1 + 3 + s1) 3 = some (J (D1 (3 + s1) 3)) := fun D2 => e D2 3 (by omega)
  have e4 : ∀ D2, rI Θ (HD Θ b D2 h) 3 (b1 + 3 + s1) 4 = some (J (D1 (3 + s1) 4)) := fun D2 => e D2 4 (by omega)
  have e5 : ∀ D2, rI Θ (HD Θ b D2 h) 3 (b1 + 3 + s1) 5 = some (J (D1 (3 + s1) 5)) := fun D2 => e D2 5 (by omega)
  have e6 : ∀ D2, rI Θ (HD Θ b D2 h) 3 (b1 + 3 + s1) 6 = some (J (D1 (3 + s1) 6)) := fun D2 => e D2 6 (by omega)
  have e7 : ∀ D2, rI Θ (HD Θ b D2 h) 3 (b1 + 3 + s1) 7 = some (J (D1 (3 + s1) 7)) := fun D2 => e D2 7 (by omega)
  have e8 : ∀ D2, rI Θ (HD Θ b D2 h) 3 (b1 + 3 + s1) 8 = some (J (D1 (3 + s1) 8)) := fun D2 => e D2 8 (by omega)
  have c8 : J (D1 (3 + s1) 8) = J 0 ∨ J (D1 (3 + s1) 8) = J 1 := by rcases h8 with q | q <;> rw [q] <;> simp
  refine ⟨up2 (up2 (up2 (up2 (up2 (up2 (up2 (up2 (up2 (up2 (up2 (up2 (up2 (up2 D (3 + s) 0 (D1 (3 + s1) 0)) (3 + s) 1 (D1 (3 + s1) 1)) (3 + s) 2 (D1 (3 + s1) 2)) (3 + s) 3 (D1 (3 + s1) 3)) (3 + s) 4 0) (3 + s) 5 0) (3 + s) 6 0) (3 + s) 7 (-1)) (3 + s) 8 0) (3 + s) 4 (D1 (3 + s1) 4)) (3 + s) 5 (D1 (3 + s1) 5)) (3 + s) 6 (D1 (3 + s1) 6)) (3 + s) 7 (D1 (3 + s1) 7)) (3 + s) 8 (D1 (3 + s1) 8), ?_, ?_⟩
  · unfold P_S_copyFrom P_S_begin
    simp only [e0, e1, e2, e3, e4, e5, e6, e7, e8, bo_some, bc_some, s_O hb h1, s_W0 hb h1, s_W1 hb h1, s_W2 hb h1, s_W3 hb h1, s_W4 hb h1, s_W5 hb h1, s_W6 hb h1, s_W7 hb h1, s_W8 hb h1]
    rw [if_pos c8]
  · refine ⟨fun a ha => ?_, fun i i1 i2 => ?_⟩
    · funext j
      simp only [up2_ne ha]
    · have i9 : i = 0 ∨ i = 1 ∨ i = 2 ∨ i = 3 ∨ i = 4 ∨ i = 5 ∨ i = 6 ∨ i = 7 ∨ i = 8 := by omega
      rcases i9 with rfl | rfl | rfl | rfl | rfl | rfl | rfl | rfl | rfl <;> simp [up2_at]
theorem c_copyFleet_L (hb : bOK Θ 13 b h) (hs : HB Θ shD b1 D1 h) (hx : b + 13 ≤ b1 ∨ b1 + 13 ≤ b) {D0 : Nat → Int → Int} (hp : PM D0) (hd : DV D1 V) (I : Inv G H M V) {K : mH → Option (Unit × mH)} : ∀ (r : Nat) (j : Int) (n : Nat) (D : Nat → Int → Int), 0 ≤ j → j + r = V 4 → r < n → CR D0 D1 D j → ∃ D', P_L_copyFrom_2 Θ N K (b + 1) (b1 + 1) n (HD Θ b D h) (J j) = K (HD Θ b D' h) ∧ CR D0 D1 D' (V 4) := by
  intro r
  have h4 := I.h4
  have hL : shD.length = 13 := rfl
  have hs2 : ∀ D, HB Θ shD b1 D1 (HD Θ b D h) := fun D => hs.other hb (by rw [hL]; omega)
  have s11 := hd.sc.2.2.2.2.1
  have eI : ∀ D, rI Θ (HD Θ b D h) 2 (b1 + 1) 1 = some (J (V 4)) := fun D => by
    rw [← s11]
    exact HB.xI (hs2 D) (i := 1) rfl rfl
  have eA : ∀ D, rA Θ (HD Θ b D h) 2 (b1 + 1) 0 = some (b1 + 2) := fun D => HB.xA (hs2 D) (i := 1) rfl rfl
  have eQ : ∀ D (x : Int), 0 ≤ x → x < 8 → aRQ Θ (HD Θ b D h) 5 (b1 + 2) (J x) = some (b1 + 3 + ro D1 x) := fun D x x1 x2 => HB.xQ (hs2 D) (i := 2) (n := 8) rfl (by omega) x1 x2
  induction r with
  | zero =>
    intro j n D h0 hj hn hc
    obtain ⟨n, rfl⟩ : ∃ n', n = n' + 1 := ⟨n - 1, by omega⟩
    rw [E_L_copyFrom_2, B_L_copyFrom_2, eI, bo_some, if_pos (by rw [J_le] <;> omega)]
    exact ⟨D, rfl, by rwa [show V 4 = j by omega]⟩
  | succ r ih =>
    intro j n D h0 hj hn hc
    obtain ⟨n, rfl⟩ : ∃ n', n = n' + 1 := ⟨n - 1, by omega⟩
    have rD : ∀ k, ro D k = ro D0 k := fun k => by unfold ro; rw [hc.1 2 (by omega)]
    have sj := I.sh j h0 (by omega)
    unfold shOK at sj
    have f5 := hd.f5 h0 (k := j) (by omega)
    obtain ⟨D', q1, q2, q3⟩ := c_copyShip (N := N) (D := D) hb hs hx (hp.rlt h0 (k := j) (by omega)) (hd.rlt h0 (k := j) (by omega)) (by rw [f5]; exact sj.2.2.2.2.2.1)
    rw [E_L_copyFrom_2, B_L_copyFrom_2, eI, bo_some, if_neg (by rw [J_le] <;> omega), l_A0 hb, bo_some, l_Q hb h0 (by omega), bo_some, rD, eA, bo_some, eQ D j h0 (by omega), bo_some, s_O hb (hp.rlt h0 (by omega)), q1, bc_some, J_add]
    refine ih (j + 1) n D' (by omega) (by omega) (by omega) ⟨fun a ha => ?_, fun k k1 k2 i i1 i2 => ?_⟩
    · have := hp.rlt h0 (k := j) (by omega)
      rw [q2 a (by omega), hc.1 a ha]
    · by_cases c : k = j
      · rw [c]
        exact q3 i i1 i2
      · rw [q2 _ (fun z => c (hp.inj k1 (by omega) h0 (by omega) (by omega)))]
        exact hc.2 k k1 (by omega) i i1 i2
theorem c_copy (hN : 2000 ≤ N) (hb : bOK Θ 13 b h) (hs : HB Θ shD b1 D1 h) (hx : b + 13 ≤ b1 ∨ b1 + 13 ≤ b) (hp : PM D) (hd : DV D1 V) (I : Inv G H M V) : ∃ D', P_D_copyFrom Θ N (HD Θ b D h) b b1 = some ((), HD Θ b D' h) ∧ DV D' V := by
  have h4 := I.h4
  have hL : shD.length = 13 := rfl
  have hs2 : ∀ D, HB Θ shD b1 D1 (HD Θ b D h) := fun D => hs.other hb (by rw [hL]; omega)
  have s := hd.sc
  have b9 := hd.bl
  have c20 := hd.c20 I
  obtain ⟨D2, q1, q2⟩ := c_copyFleet_L (Θ := Θ) (N := N) (b := b) (D0 := D) (K := fun h8 => (bo (rI Θ h8 2 (b1 + 1) 1) (fun v9 => (bo (wF Θ h8 2 (b + 1) 1 (.int v9)) (fun h10 => (bo (rI Θ h10 2 (b1 + 1) 2) (fun v11 => (bo (wF Θ h10 2 (b + 1) 2 (.int v11)) (fun h12 => (some ((), h12)))))))))) ) hb hs hx hp hd I (V 4).toNat 0 N D (by omega) (by omega) (by omega) ⟨fun _ _ => rfl, fun k k1 k2 => by omega⟩
  have r1 : ∀ D, rI Θ (HD Θ b D h) 2 (b1 + 1) 1 = some (J (V 4)) := fun D => by
    rw [← s.2.2.2.2.1]
    exact HB.xI (hs2 D) (i := 1) rfl rfl
  have r2 : ∀ D, rI Θ (HD Θ b D h) 2 (b1 + 1) 2 = some (J (V 5)) := fun D => by
    rw [← s.2.2.2.2.2.1]
    exact HB.xI (hs2 D) (i := 1) rfl rfl
  have r3 : ∀ D, rA Θ (HD Θ b D h) 1 b1 0 = some (b1 + 1) := fun D => HB.xA (hs2 D) (i := 0) rfl rfl
  have r4 : ∀ D, rA Θ (HD Θ b D h) 1 b1 1 = some (b1 + 11) := fun D => HB.xA (hs2 D) (i := 0) rfl rfl
  have r5 : ∀ D, rA Θ (HD Θ b D h) 4 (b1 + 11) 0 = some (b1 + 12) := fun D => HB.xA (hs2 D) (i := 11) rfl rfl
  have r6 : ∀ D, rI Θ (HD Θ b D h) 4 (b1 + 11) 1 = some (J (D1 11 1)) := fun D => HB.xI (hs2 D) (i := 11) rfl rfl
  have t2 : ∀ D, rI Θ (HD Θ b D h) 1 b1 2 = some (J (V 1)) := fun D => by
    rw [← s.2.1]
    exact HB.xI (hs2 D) (i := 0) rfl rfl
  have t3 : ∀ D, rI Θ (HD Θ b D h) 1 b1 3 = some (J (V 2)) := fun D => by
    rw [← s.2.2.1]
    exact HB.xI (hs2 D) (i := 0) rfl rfl
  have t4 : ∀ D, rI Θ (HD Θ b D h) 1 b1 4 = some (J (V 3)) := fun D => by
    rw [← s.2.2.2.1]
    exact HB.xI (hs2 D) (i := 0) rfl rfl
  have t5 : ∀ D, rI Θ (HD Θ b D h) 1 b1 5 = some (J (V 0)) := fun D => by
    rw [← s.1]
    exact HB.xI (hs2 D) (i := 0) rfl rfl
  have t6 : ∀ D, rI Θ (HD Θ b D h) 1 b1 6 = some (J (V 6)) := fun D => by
    rw [← s.2.2.2.2.2.2.1]
    exact HB.xI (hs2 D) (i := 0) rfl rfl
  have t7 : ∀ D, rI Θ (HD Θ b D h) 1 b1 7 = some (J (V 7)) := fun D => by
    rw [← s.2.2.2.2.2.2.2]
    exact HB.xI (hs2 D) (i := 0) rfl rfl
  have cp : ∀ D, cpI Θ (HD Θ b D h) 0 (b1 + 12) (J 0) (b + 12) (J 0) (J (D1 11 1)) = some (HD Θ b (fun a => if a = 12 then (fun j => if 0 ≤ j ∧ j < D1 11 1 then D1 12 j else D 12 j) else D a) h) := fun D => by
    unfold cpI
    have g1 : gt Θ (HD Θ b D h) (b1 + 12) = some (aI 0 20 (fun k => J (D1 12 k))) := (hs2 D).at (i := 12) rfl
    have g2 : gt Θ (HD Θ b D h) (b + 12) = some (aI 0 20 (fun k => J (D 12 k))) := BK_at (L := shD) hb (i := 12) rfl
    rw [g1, g2]
    have n1 := J_nat (a := D1 11 1) (by omega) (by omega)
    have n0 : (J 0).toNatClampNeg = 0 := J_nat (a := 0) (by omega) (by omega)
    show (if ((0 : Nat) = 0 ∧ (0 : Nat) = 0) ∧ (¬ J 0 < 0 ∧ ¬ J 0 < 0 ∧ ¬ J (D1 11 1) < 0) ∧ (J 0).toNatClampNeg + (J (D1 11 1)).toNatClampNeg ≤ 20 ∧ (J 0).toNatClampNeg + (J (D1 11 1)).toNatClampNeg ≤ 20 then some (pt Θ (HD Θ b D h) (b + 12) (aI 0 20 (va_cpy (fun k => J (D1 12 k)) (fun k => J (D 12 k)) (J 0).toNatClampNeg (J 0).toNatClampNeg (J (D1 11 1)).toNatClampNeg))) else none) = _
    rw [if_pos ⟨⟨rfl, rfl⟩, ⟨by decide, by decide, by rw [J_lt0] <;> omega⟩, by rw [n0, n1]; omega, by rw [n0, n1]; omega⟩, n0, n1]
    have e : (va_cpy (fun k : Nat => J (D1 12 k)) (fun k : Nat => J (D 12 k)) 0 0 (D1 11 1).toNat) = fun k : Nat => J ((fun j : Int => if 0 ≤ j ∧ j < D1 11 1 then D1 12 j else D 12 j) (k : Int)) := by
      funext k
      unfold va_cpy
      dsimp only
      by_cases c : (k : Int) < D1 11 1
      · rw [if_pos (by omega), if_pos (by omega), show 0 + (k - 0) = k by omega]
      · rw [if_neg (by omega), if_neg (by omega)]
    rw [e]
    exact congrArg some (BK_pt hb (i := 12) (s := .inr (.inl (0, 20))) (row := fun j : Int => if 0 ≤ j ∧ j < D1 11 1 then D1 12 j else D 12 j) rfl)
  have w2 : J (V 2) = J 0 ∨ J (V 2) = J 1 := by rcases I.h2 with q | q <;> rw [q] <;> simp
  refine ⟨up2 (up2 (up2 (up2 (up2 (up2 (up2 (fun a => if a = 12 then (fun j => if 0 ≤ j ∧ j < D1 11 1 then D1 12 j else (up2 (up2 D2 1 1 (V 4)) 1 2 (V 5)) 12 j) else (up2 (up2 D2 1 1 (V 4)) 1 2 (V 5)) a) 11 1 (D1 11 1)) 0 2 (V 1)) 0 3 (V 2)) 0 4 (V 3)) 0 5 (V 0)) 0 6 (V 6)) 0 7 (V 7), ?_, ?_⟩
  · unfold P_D_copyFrom
    rw [d_A0 hb, bo_some, r3, bo_some, l_O hb]
    unfold P_L_copyFrom
    refine (show _ = _ from congrArg (fun q => bc q _) q1).trans ?_
    rw [r1, bo_some, l_W1 hb, bo_some, r2, bo_some, l_W2 hb, bo_some, bc_some, d_A1 hb, bo_some, r4, bo_some, b_O hb]
    unfold P_B_copyFrom
    rw [r5, bo_some, b_A0 hb, bo_some, r6, bo_some, cp, bo_some, r6, bo_some, b_W1 hb, bo_some, bc_some, t2, bo_some, d_W2 hb, bo_some, t3, bo_some, if_pos w2, d_W3 hb, bo_some, t4, bo_some, d_W4 hb, bo_some, t5, bo_some, d_W5 hb, bo_some, t6, bo_some, d_W6 hb, bo_some, t7, bo_some, d_W7 hb, bo_some]
  · generalize hE : up2 (up2 (up2 (up2 (up2 (up2 (up2 (fun a => if a = 12 then (fun j => if 0 ≤ j ∧ j < D1 11 1 then D1 12 j else (up2 (up2 D2 1 1 (V 4)) 1 2 (V 5)) 12 j) else (up2 (up2 D2 1 1 (V 4)) 1 2 (V 5)) a) 11 1 (D1 11 1)) 0 2 (V 1)) 0 3 (V 2)) 0 4 (V 3)) 0 5 (V 0)) 0 6 (V 6)) 0 7 (V 7) = E
    have z : ∀ (a : Nat) (j : Int), E a j = if a = 0 ∧ j = 7 then V 7 else if a = 0 ∧ j = 6 then V 6 else if a = 0 ∧ j = 5 then V 0 else if a = 0 ∧ j = 4 then V 3 else if a = 0 ∧ j = 3 then V 2 else if a = 0 ∧ j = 2 then V 1 else if a = 11 ∧ j = 1 then D1 11 1 else if a = 12 then (if 0 ≤ j ∧ j < D1 11 1 then D1 12 j else D2 12 j) else if a = 1 ∧ j = 2 then V 5 else if a = 1 ∧ j = 1 then V 4 else D2 a j := fun a j => by
      rw [← hE]
      simp only [up2_at]
      by_cases c : a = 12
      · subst c
        simp
      · simp only [if_neg c, up2_at]
    have z2 : E 2 = D 2 := by
      funext j
      rw [z]
      simp
      rw [q2.1 2 (by omega)]
    have zr : ∀ k, ro E k = ro D k := fun k => by unfold ro; rw [z2]
    refine ⟨?_, ?_, ?_, ?_⟩
    · simp [z]
    · rw [z2]
      exact hp
    · intro k a c i x y
      have hr := hp.rlt a (k := k) (by omega)
      rw [zr, z]
      rw [if_neg (by omega), if_neg (by omega), if_neg (by omega), if_neg (by omega), if_neg (by omega), if_neg (by omega), if_neg (by omega), if_neg (by omega), if_neg (by omega), if_neg (by omega)]
      have i9 : i = 0 ∨ i = 1 ∨ i = 2 ∨ i = 3 ∨ i = 4 ∨ i = 5 ∨ i = 6 ∨ i = 7 ∨ i = 8 := by omega
      have hsf : 0 ≤ sf i ∧ sf i ≤ 8 := by rcases i9 with rfl | rfl | rfl | rfl | rfl | rfl | rfl | rfl | rfl <;> decide
      rw [q2.2 k a c (sf i) hsf.1 hsf.2]
      exact hd.2.2.1 k a c i x y
    · have e11 : E 11 1 = D1 11 1 := by rw [z]; simp
      have e12 : ∀ j : Int, 0 ≤ j → j < D1 11 1 → E 12 j = D1 12 j := fun j x y => by
        rw [z]
        simp [x, y]
      rw [e11]
      refine ⟨b9.1, b9.2.1, fun j x y => ?_, fun j l x y w => ?_, fun p x y => ?_⟩
      · rw [e12 j x y]
        exact b9.2.2.1 j x y
      · rw [e12 j x (by omega), e12 l (by omega) w]
        exact b9.2.2.2.1 j l x y w
      · refine (b9.2.2.2.2 p x y).trans ⟨fun ⟨i, u1, u2, u3⟩ => ⟨i, u1, u2, by rw [e12 i u1 u2]; exact u3⟩, fun ⟨i, u1, u2, u3⟩ => ⟨i, u1, u2, by rw [e12 i u1 u2] at u3; exact u3⟩⟩
end CP
