/-! one command, class and reference side by side -/
def ar (k : Nat) : Nat := if k = 5 ∨ k = 6 then 0 else (seps k).length + 1
def rg (x : Int) : Prop := -999 ≤ x ∧ x ≤ 999
section CM
variable {Θ : mW} {N f m b t u q v : Nat} {c d n : Int} {τ : Int → Int} {T U : Nat → Int → Int} {S : Nat → Int → Int} {h : mH} {bO : (Int → Int) → Prop} {tb : Int → Nat} {vp : Int → Prop} {pc : mH → Option ((Int32 ⊕ Nat) × mH)} {pr : mH → Option (Int32 × mH)}
theorem nb_ns : ∀ (sp : List Nat) (p : Int) (ns : List Int), (∀ x, x ∈ ns → rg x) → (nb τ n sp p ns).2.1 = true → (nb τ n sp p ns).2.2.length = ns.length + sp.length + 1 ∧ ∀ x, x ∈ (nb τ n sp p ns).2.2 → rg x
  | [], p, ns, hn, ht => by
    have g := nmv_999 (τ := τ) (n := n) (p := p)
    rw [nb] at ht ⊢
    by_cases z : (nmv τ n 3 0 p).2 = p
    · rw [if_pos z] at ht; cases ht
    · rw [if_neg z]
      refine ⟨by simp, fun x hx => ?_⟩
      rw [List.mem_append, List.mem_singleton] at hx
      rcases hx with hx | hx
      · exact hn x hx
      · rw [hx]; exact ⟨by omega, by omega⟩
  | e :: cs, p, ns, hn, ht => by
    have g := nmv_999 (τ := τ) (n := n) (p := p)
    rw [nb] at ht ⊢
    by_cases z : (nmv τ n 3 0 p).2 = p
    · rw [if_pos z] at ht; cases ht
    · rw [if_neg z] at ht ⊢
      by_cases y : (nmv τ n 3 0 p).2 < n ∧ τ (nmv τ n 3 0 p).2 = e
      · rw [if_pos y] at ht ⊢
        have := nb_ns cs ((nmv τ n 3 0 p).2 + 1) (ns ++ [(nmv τ n 3 0 p).1]) (fun x hx => by
          rw [List.mem_append, List.mem_singleton] at hx
          rcases hx with hx | hx
          · exact hn x hx
          · rw [hx]; exact ⟨by omega, by omega⟩) ht
        refine ⟨?_, this.2⟩
        rw [this.1, List.length_append]
        simp
        omega
      · rw [if_neg y] at ht; cases ht
theorem cmd_ns {p : Int} {k : Nat} {ns : List Int} (hc : (cmd τ n p).2 = some (k, ns)) : ns.length = ar k ∧ ∀ x, x ∈ ns → rg x := by
  unfold cmd at hc
  cases e : kfd τ n p 12 0 with
  | none => rw [e] at hc; cases hc
  | some k0 =>
    rw [e] at hc
    dsimp only at hc
    by_cases z : (tail1 τ n k0 (p + (kw k0).length)).2.1 = true
    · rw [if_pos z] at hc
      obtain ⟨rfl, rfl⟩ : k0 = k ∧ (tail1 τ n k0 (p + (kw k0).length)).2.2 = ns := by
        injection hc with hc
        injection hc with a b
        subst a
        exact ⟨rfl, b⟩
      unfold ar
      unfold tail1 at z ⊢
      by_cases y : k0 = 5 ∨ k0 = 6
      · rw [if_pos y, if_pos y]
        exact ⟨rfl, fun x hx => by cases hx⟩
      · rw [if_neg y] at z ⊢
        rw [if_neg y]
        by_cases w : k0 = 7 ∧ p + (kw k0).length < n ∧ τ (p + (kw k0).length) = 45
        · rw [if_pos w] at z ⊢
          have g := nmv_999 (τ := τ) (n := n) (p := p + (kw k0).length + 1)
          by_cases y2 : (nmv τ n 3 0 (p + (kw k0).length + 1)).2 = p + (kw k0).length + 1
          · rw [if_pos y2] at z; cases z
          · rw [if_neg y2]
            refine ⟨?_, fun x hx => ?_⟩
            · rw [w.1]; rfl
            · rw [List.mem_singleton] at hx
              rw [hx]; exact ⟨by omega, by omega⟩
        · rw [if_neg w] at z ⊢
          have := nb_ns (τ := τ) (n := n) (seps k0) (p + (kw k0).length) [] (fun x hx => by cases hx) z
          exact ⟨by rw [this.1]; simp, this.2⟩
    · rw [if_neg z] at hc; cases hc
theorem tbl_in {l : List Nat} (hl : ∀ x, x ∈ l → x = 10 ∨ x = 11 ∨ x = 12 ∨ x = 13) {t : Int} (ht : tbl l t ≠ 0) : tbl l t = 10 ∨ tbl l t = 11 ∨ tbl l t = 12 ∨ tbl l t = 13 := by
  unfold tbl at ht ⊢
  rw [List.getD_eq_getElem?_getD] at ht ⊢
  cases e : l[t.toNat - 1]? with
  | none => rw [e] at ht; exact (ht rfl).elim
  | some x => exact hl x (List.mem_of_getElem? e)
/-- what a command does on both sides -/
def CM1 (Θ : mW) (N f m : Nat) (c : Int) (h : mH) (S : Nat → Int → Int) (bO : (Int → Int) → Prop) (d : Int) : Prop :=
  ∃ (v : Int) (S' : Nat → Int → Int) (h1 : mH), P_F_succeeds Θ N h f = some (J (if S' 0 13 = 0 then 1 else 0), h1) ∧ (∀ h2, bOK Θ 9 m h2 → P_R_does Θ N (HR Θ m S h2) m (J (4 * d)) = some (J v, HR Θ m S' h2)) ∧ KX Θ f (c + 1) h1 S' bO ∧ Nx Θ h h1 (KR f) 1 6 ∧ (0 ≤ S' 0 13 ∧ S' 0 13 ≤ 4) ∧ (S' 0 13 ≠ 0 → S' 1 = S 1) ∧ (∀ a : Nat, a ≠ 0 → a ≠ 1 → S' a = S a) ∧ (∀ j : Int, j ≠ 8 → j ≠ 13 → S' 0 j = S 0 j) ∧ (0 ≤ S 0 8 → S 0 8 ≤ 4 → 0 ≤ S' 0 8 ∧ S' 0 8 ≤ 4)
theorem cm_of {l : List Nat} (hl : ∀ x, x ∈ l → x = 10 ∨ x = 11 ∨ x = 12 ∨ x = 13) (ii : INN Θ f m (tbl l) vp pc pr) (c0 : 0 ≤ c) (c1 : c ≤ 2000) (kx : KX Θ f c h S bO) (e1 : P_F_succeeds Θ N h f = bx (bx (pc h) (fun _ h15 => some ((.inl () : Unit ⊕ Nat), h15)) (fun n9 h9 => xp n9 h9)) (fun _ h3 => some (J 1, h3)) (fun n9 h5 => if n9 = 10 then some (J 0, h5) else if n9 = 11 then some (J 0, h5) else if n9 = 12 then some (J 0, h5) else if n9 = 13 then some (J 0, h5) else none)) (e2 : ∀ h2, bOK Θ 9 m h2 → P_R_does Θ N (HR Θ m S h2) m (J (4 * d)) = bc (pr (HR Θ m S h2)) (fun v h => some (v, h))) : CM1 Θ N f m c h S bO d := by
  obtain ⟨v, S', h1, b1, b2, b3, b4, b5, b6, b7, b8, b9, b10, b11⟩ := ii c h S bO c0 c1 kx
  refine ⟨v, S', h1, ?_, fun h2 hb => by rw [e2 h2 hb, b2 h2 hb, bc_some], b3, b4, b5, b6, b7, b8, b10⟩
  rw [e1, b1]
  by_cases z : S' 0 13 = 0
  · rw [if_pos z, if_pos z]
    rfl
  · rw [if_neg z, if_neg z]
    rcases tbl_in hl (b11 z) with y | y | y | y <;> rw [y] <;> rfl
/-- forms are told apart -/
def mI (Θ : mW) : Prop := ∀ i j : Nat, i < 12 → j < 12 → mwad Θ i = mwad Θ j → i = j
theorem rO_k (mi : mI Θ) {ci q0 i k : Nat} (hk : k < 12) (hr : rA Θ h ci q0 i = some (mwad Θ k)) : rO Θ h ci q0 i = some k := by
  unfold rO
  rw [hr]
  dsimp only
  rw [List.find?_eq_some_iff_getElem]
  refine ⟨by simp, k, by simpa using hk, by simp, fun j hj => ?_⟩
  simp only [List.getElem_range, Bool.not_eq_true', decide_eq_false_iff_not]
  exact fun z => by have := mi j k (by omega) hk z; omega
theorem suc_eq (mi : mI Θ) (kx : KX Θ f c h S bO) (cc : CT Θ (f + 151) (f + 154) q v n τ T U h) {k : Nat} (hk : k < 12) (h4 : T 0 4 = mwad Θ k) : P_F_succeeds Θ N h f = bx (P_F_carryOut Θ N h f k) (fun _ h3 => some (J 1, h3)) (fun n9 h5 => if n9 = 10 then some (J 0, h5) else if n9 = 11 then some (J 0, h5) else if n9 = 12 then some (J 0, h5) else if n9 = 13 then some (J 0, h5) else none) := by
  have r : rA Θ h 7 (f + 151) 4 = some (mwad Θ k) := by
    have := HB.xB cc.1 (i := 0) (ci := 7) (k := 4) rfl rfl
    rwa [show T 0 ((4 : Nat) : Int) = (mwad Θ k : Int) from h4, Int.toNat_natCast] at this
  unfold P_F_succeeds
  rw [kx.r6, bo_some, rO_k mi hk r, bo_some, kx.gO]
theorem kp {k' : Nat} {ns : List Int} (hk : kept T U ns) (hr : rcN S d k' ns) (i : Nat) (hi : i < ns.length) (hg : ∀ x, x ∈ ns → rg x) : ∃ x : Int, U 0 i = x ∧ S 8 (4 * d + 1 + i) = x ∧ rg x := by
  have e : ns[i]? = some ns[i] := List.getElem?_eq_getElem hi
  exact ⟨ns[i], hk.2 i _ e, hr.2 i _ e, hg _ (List.getElem_mem hi)⟩
theorem cm_0 (mi : mI Θ) (hN : 2000 ≤ N) (kx : KX Θ f c h S bO) (c0 : 0 ≤ c) (c1 : c ≤ 2000) (cc : CT Θ (f + 151) (f + 154) q v n τ T U h) (h4 : T 0 4 = mwad Θ 0) {ns : List Int} (hk : kept T U ns) (hr : rcN S d 0 ns) (hl : ns.length = 3) (hg : ∀ x, x ∈ ns → rg x) (d0 : 0 ≤ d) (d1 : d ≤ 28) : CM1 Θ N f m c h S bO d := by
  obtain ⟨x0, u0, s0, g0⟩ := kp hk hr 0 (by omega) hg
  have t0 : int' x0 := ⟨by have := g0.1; omega, by have := g0.2; omega⟩
  have w0 : U 0 (0 : Int) = x0 := u0
  have y0 : S 8 (4 * d + 1) = x0 := by rw [← s0]; exact congrArg (S 8) (by omega)
  obtain ⟨x1, u1, s1, g1⟩ := kp hk hr 1 (by omega) hg
  have t1 : int' x1 := ⟨by have := g1.1; omega, by have := g1.2; omega⟩
  have w1 : U 0 (1 : Int) = x1 := u1
  have y1 : S 8 (4 * d + 2) = x1 := by rw [← s1]; exact congrArg (S 8) (by omega)
  obtain ⟨x2, u2, s2, g2⟩ := kp hk hr 2 (by omega) hg
  have t2 : int' x2 := ⟨by have := g2.1; omega, by have := g2.2; omega⟩
  have w2 : U 0 (2 : Int) = x2 := u2
  have y2 : S 8 (4 * d + 3) = x2 := by rw [← s2]; exact congrArg (S 8) (by omega)
  refine cm_of (pc := pcA Θ N f (J x0) (J x1) (J x2)) (pr := fun h => P_R_adds Θ N h m (J x0) (J x1) (J x2)) (by decide) (in_add (N := N) t0 t1 t2 hN) c0 c1 kx ((suc_eq mi kx cc (by decide) h4).trans (congrArg (fun p => bx p _ _) ?_)) (fun h2 hb => ?_)
  · unfold P_F_carryOut
    rw [kx.r6, bo_some, ct_u cc, bo_some, ct_n cc (x := 0) (by omega) (by omega), bo_some, bo_some, ct_u cc, bo_some, ct_n cc (x := 1) (by omega) (by omega), bo_some, show oE 0 = some 0 from rfl, bo_some, show P_EN_ordinal Θ N h 0 = some (J 0, h) from rfl, bc_some, show oSw (J 0) = some (J 1) from rfl, bo_some, if_neg (show ¬ ((J 1).toInt < 1 ∨ 12 < (J 1).toInt) by decide), if_pos (show (J 1 : Int32) = J 1 from rfl)]
    simp only [gO_bx, bo_bx, kx.r6, bo_some, ct_u cc, ct_n cc (x := 2) (by omega) (by omega), w0, w1, w2]
    rfl
  · have z8 : S 8 (4 * d) = 0 := hr.1
    unfold P_R_does
    rw [r_A19 hb, bo_some, J_add (4 * d) 1, r_a8 hb (by omega) (by omega), bo_some, bo_some, J_add (4 * d) 2, r_a8 hb (by omega) (by omega), bo_some, bo_some, r_a8 hb (by omega) (by omega), bo_some, z8, if_neg (show ¬ ((J 0).toInt < 0 ∨ 10 < (J 0).toInt) by decide), if_pos (show (J 0 : Int32) = J 0 from rfl), bo_some, J_add (4 * d) 3, r_a8 hb (by omega) (by omega), bo_some, r_O hb, y0, y1, y2]
theorem cm_1 (mi : mI Θ) (hN : 2000 ≤ N) (kx : KX Θ f c h S bO) (c0 : 0 ≤ c) (c1 : c ≤ 2000) (cc : CT Θ (f + 151) (f + 154) q v n τ T U h) (h4 : T 0 4 = mwad Θ 1) {ns : List Int} (hk : kept T U ns) (hr : rcN S d 1 ns) (hl : ns.length = 2) (hg : ∀ x, x ∈ ns → rg x) (d0 : 0 ≤ d) (d1 : d ≤ 28) : CM1 Θ N f m c h S bO d := by
  obtain ⟨x0, u0, s0, g0⟩ := kp hk hr 0 (by omega) hg
  have t0 : int' x0 := ⟨by have := g0.1; omega, by have := g0.2; omega⟩
  have w0 : U 0 (0 : Int) = x0 := u0
  have y0 : S 8 (4 * d + 1) = x0 := by rw [← s0]; exact congrArg (S 8) (by omega)
  obtain ⟨x1, u1, s1, g1⟩ := kp hk hr 1 (by omega) hg
  have t1 : int' x1 := ⟨by have := g1.1; omega, by have := g1.2; omega⟩
  have w1 : U 0 (1 : Int) = x1 := u1
  have y1 : S 8 (4 * d + 2) = x1 := by rw [← s1]; exact congrArg (S 8) (by omega)
  refine cm_of (pc := pcE Θ N f (J x0) (J x1)) (pr := fun h => P_R_enters Θ N h m (J x0) (J x1)) (by decide) (in_ent (N := N) t0 t1 hN) c0 c1 kx ((suc_eq mi kx cc (by decide) h4).trans (congrArg (fun p => bx p _ _) ?_)) (fun h2 hb => ?_)
  · unfold P_F_carryOut
    rw [kx.r6, bo_some, ct_u cc, bo_some, ct_n cc (x := 0) (by omega) (by omega), bo_some, bo_some, ct_u cc, bo_some, ct_n cc (x := 1) (by omega) (by omega), bo_some, show oE 1 = some 1 from rfl, bo_some, show P_EN_ordinal Θ N h 1 = some (J 1, h) from rfl, bc_some, show oSw (J 1) = some (J 2) from rfl, bo_some, if_neg (show ¬ ((J 2).toInt < 1 ∨ 12 < (J 2).toInt) by decide), if_neg (show ¬ (J 2 : Int32) = J 1 by decide), if_pos (show (J 2 : Int32) = J 2 from rfl)]
    simp only [gO_bx, bo_bx, w0, w1]
    rfl
  · have z8 : S 8 (4 * d) = 1 := hr.1
    unfold P_R_does
    rw [r_A19 hb, bo_some, J_add (4 * d) 1, r_a8 hb (by omega) (by omega), bo_some, bo_some, J_add (4 * d) 2, r_a8 hb (by omega) (by omega), bo_some, bo_some, r_a8 hb (by omega) (by omega), bo_some, z8, if_neg (show ¬ ((J 1).toInt < 0 ∨ 10 < (J 1).toInt) by decide), if_neg (show ¬ (J 1 : Int32) = J 0 by decide), if_pos (show (J 1 : Int32) = J 1 from rfl), r_O hb, y0, y1]
theorem cm_2 (mi : mI Θ) (hN : 2000 ≤ N) (kx : KX Θ f c h S bO) (c0 : 0 ≤ c) (c1 : c ≤ 2000) (cc : CT Θ (f + 151) (f + 154) q v n τ T U h) (h4 : T 0 4 = mwad Θ 2) {ns : List Int} (hk : kept T U ns) (hr : rcN S d 2 ns) (hl : ns.length = 1) (hg : ∀ x, x ∈ ns → rg x) (d0 : 0 ≤ d) (d1 : d ≤ 28) : CM1 Θ N f m c h S bO d := by
  obtain ⟨x0, u0, s0, g0⟩ := kp hk hr 0 (by omega) hg
  have t0 : int' x0 := ⟨by have := g0.1; omega, by have := g0.2; omega⟩
  have w0 : U 0 (0 : Int) = x0 := u0
  have y0 : S 8 (4 * d + 1) = x0 := by rw [← s0]; exact congrArg (S 8) (by omega)
  refine cm_of (pc := pcL Θ N f (J x0)) (pr := fun h => P_R_leaves Θ N h m (J x0)) (by decide) (in_lea (N := N) t0 hN) c0 c1 kx ((suc_eq mi kx cc (by decide) h4).trans (congrArg (fun p => bx p _ _) ?_)) (fun h2 hb => ?_)
  · unfold P_F_carryOut
    rw [kx.r6, bo_some, ct_u cc, bo_some, ct_n cc (x := 0) (by omega) (by omega), bo_some, bo_some, ct_u cc, bo_some, ct_n cc (x := 1) (by omega) (by omega), bo_some, show oE 2 = some 2 from rfl, bo_some, show P_EN_ordinal Θ N h 2 = some (J 2, h) from rfl, bc_some, show oSw (J 2) = some (J 3) from rfl, bo_some, if_neg (show ¬ ((J 3).toInt < 1 ∨ 12 < (J 3).toInt) by decide), if_neg (show ¬ (J 3 : Int32) = J 1 by decide), if_neg (show ¬ (J 3 : Int32) = J 2 by decide), if_pos (show (J 3 : Int32) = J 3 from rfl)]
    simp only [gO_bx, bo_bx, w0]
    rfl
  · have z8 : S 8 (4 * d) = 2 := hr.1
    unfold P_R_does
    rw [r_A19 hb, bo_some, J_add (4 * d) 1, r_a8 hb (by omega) (by omega), bo_some, bo_some, J_add (4 * d) 2, r_a8 hb (by omega) (by omega), bo_some, bo_some, r_a8 hb (by omega) (by omega), bo_some, z8, if_neg (show ¬ ((J 2).toInt < 0 ∨ 10 < (J 2).toInt) by decide), if_neg (show ¬ (J 2 : Int32) = J 0 by decide), if_neg (show ¬ (J 2 : Int32) = J 1 by decide), if_pos (show (J 2 : Int32) = J 2 from rfl), r_O hb, y0]
theorem cm_3 (mi : mI Θ) (hN : 2000 ≤ N) (kx : KX Θ f c h S bO) (c0 : 0 ≤ c) (c1 : c ≤ 2000) (cc : CT Θ (f + 151) (f + 154) q v n τ T U h) (h4 : T 0 4 = mwad Θ 3) {ns : List Int} (hk : kept T U ns) (hr : rcN S d 3 ns) (hl : ns.length = 1) (hg : ∀ x, x ∈ ns → rg x) (d0 : 0 ≤ d) (d1 : d ≤ 28) : CM1 Θ N f m c h S bO d := by
  obtain ⟨x0, u0, s0, g0⟩ := kp hk hr 0 (by omega) hg
  have t0 : int' x0 := ⟨by have := g0.1; omega, by have := g0.2; omega⟩
  have w0 : U 0 (0 : Int) = x0 := u0
  have y0 : S 8 (4 * d + 1) = x0 := by rw [← s0]; exact congrArg (S 8) (by omega)
  refine cm_of (pc := pcC Θ N f (J x0) (J 1)) (pr := fun h => P_R_cleans Θ N h m (J x0) (J 1)) (by decide) (in_cle (N := N) t0 (x := 1) (Or.inr rfl) hN) c0 c1 kx ((suc_eq mi kx cc (by decide) h4).trans (congrArg (fun p => bx p _ _) ?_)) (fun h2 hb => ?_)
  · unfold P_F_carryOut
    rw [kx.r6, bo_some, ct_u cc, bo_some, ct_n cc (x := 0) (by omega) (by omega), bo_some, bo_some, ct_u cc, bo_some, ct_n cc (x := 1) (by omega) (by omega), bo_some, show oE 3 = some 3 from rfl, bo_some, show P_EN_ordinal Θ N h 3 = some (J 3, h) from rfl, bc_some, show oSw (J 3) = some (J 4) from rfl, bo_some, if_neg (show ¬ ((J 4).toInt < 1 ∨ 12 < (J 4).toInt) by decide), if_neg (show ¬ (J 4 : Int32) = J 1 by decide), if_neg (show ¬ (J 4 : Int32) = J 2 by decide), if_neg (show ¬ (J 4 : Int32) = J 3 by decide), if_pos (show (J 4 : Int32) = J 4 from rfl)]
    simp only [gO_bx, bo_bx, w0]
    rfl
  · have z8 : S 8 (4 * d) = 3 := hr.1
    unfold P_R_does
    rw [r_A19 hb, bo_some, J_add (4 * d) 1, r_a8 hb (by omega) (by omega), bo_some, bo_some, J_add (4 * d) 2, r_a8 hb (by omega) (by omega), bo_some, bo_some, r_a8 hb (by omega) (by omega), bo_some, z8, if_neg (show ¬ ((J 3).toInt < 0 ∨ 10 < (J 3).toInt) by decide), if_neg (show ¬ (J 3 : Int32) = J 0 by decide), if_neg (show ¬ (J 3 : Int32) = J 1 by decide), if_neg (show ¬ (J 3 : Int32) = J 2 by decide), if_pos (show (J 3 : Int32) = J 3 from rfl), bo_some, r_a8 hb (by omega) (by omega), bo_some, z8, J_sub 4 3, show (4 : Int) - 3 = 1 from rfl, r_O hb, y0]
theorem cm_4 (mi : mI Θ) (hN : 2000 ≤ N) (kx : KX Θ f c h S bO) (c0 : 0 ≤ c) (c1 : c ≤ 2000) (cc : CT Θ (f + 151) (f + 154) q v n τ T U h) (h4 : T 0 4 = mwad Θ 4) {ns : List Int} (hk : kept T U ns) (hr : rcN S d 4 ns) (hl : ns.length = 1) (hg : ∀ x, x ∈ ns → rg x) (d0 : 0 ≤ d) (d1 : d ≤ 28) : CM1 Θ N f m c h S bO d := by
  obtain ⟨x0, u0, s0, g0⟩ := kp hk hr 0 (by omega) hg
  have t0 : int' x0 := ⟨by have := g0.1; omega, by have := g0.2; omega⟩
  have w0 : U 0 (0 : Int) = x0 := u0
  have y0 : S 8 (4 * d + 1) = x0 := by rw [← s0]; exact congrArg (S 8) (by omega)
  refine cm_of (pc := pcC Θ N f (J x0) (J 0)) (pr := fun h => P_R_cleans Θ N h m (J x0) (J 0)) (by decide) (in_cle (N := N) t0 (x := 0) (Or.inl rfl) hN) c0 c1 kx ((suc_eq mi kx cc (by decide) h4).trans (congrArg (fun p => bx p _ _) ?_)) (fun h2 hb => ?_)
  · unfold P_F_carryOut
    rw [kx.r6, bo_some, ct_u cc, bo_some, ct_n cc (x := 0) (by omega) (by omega), bo_some, bo_some, ct_u cc, bo_some, ct_n cc (x := 1) (by omega) (by omega), bo_some, show oE 4 = some 4 from rfl, bo_some, show P_EN_ordinal Θ N h 4 = some (J 4, h) from rfl, bc_some, show oSw (J 4) = some (J 5) from rfl, bo_some, if_neg (show ¬ ((J 5).toInt < 1 ∨ 12 < (J 5).toInt) by decide), if_neg (show ¬ (J 5 : Int32) = J 1 by decide), if_neg (show ¬ (J 5 : Int32) = J 2 by decide), if_neg (show ¬ (J 5 : Int32) = J 3 by decide), if_neg (show ¬ (J 5 : Int32) = J 4 by decide), if_pos (show (J 5 : Int32) = J 5 from rfl)]
    simp only [gO_bx, bo_bx, w0]
    rfl
  · have z8 : S 8 (4 * d) = 4 := hr.1
    unfold P_R_does
    rw [r_A19 hb, bo_some, J_add (4 * d) 1, r_a8 hb (by omega) (by omega), bo_some, bo_some, J_add (4 * d) 2, r_a8 hb (by omega) (by omega), bo_some, bo_some, r_a8 hb (by omega) (by omega), bo_some, z8, if_neg (show ¬ ((J 4).toInt < 0 ∨ 10 < (J 4).toInt) by decide), if_neg (show ¬ (J 4 : Int32) = J 0 by decide), if_neg (show ¬ (J 4 : Int32) = J 1 by decide), if_neg (show ¬ (J 4 : Int32) = J 2 by decide), if_neg (show ¬ (J 4 : Int32) = J 3 by decide), if_pos (show (J 4 : Int32) = J 4 from rfl), bo_some, r_a8 hb (by omega) (by omega), bo_some, z8, J_sub 4 4, show (4 : Int) - 4 = 0 from rfl, r_O hb, y0]
theorem cm_5 (mi : mI Θ) (hN : 2000 ≤ N) (kx : KX Θ f c h S bO) (c0 : 0 ≤ c) (c1 : c ≤ 2000) (cc : CT Θ (f + 151) (f + 154) q v n τ T U h) (h4 : T 0 4 = mwad Θ 5) {ns : List Int} (hk : kept T U ns) (hr : rcN S d 5 ns) (hl : ns.length = 0) (hg : ∀ x, x ∈ ns → rg x) (d0 : 0 ≤ d) (d1 : d ≤ 28) : CM1 Θ N f m c h S bO d := by
  refine cm_of (pc := pcG Θ N f (J 1)) (pr := fun h => P_R_gates Θ N h m (J 1)) (by decide) (in_gat (N := N) (x := 1) (Or.inr rfl)) c0 c1 kx ((suc_eq mi kx cc (by decide) h4).trans (congrArg (fun p => bx p _ _) ?_)) (fun h2 hb => ?_)
  · unfold P_F_carryOut
    rw [kx.r6, bo_some, ct_u cc, bo_some, ct_n cc (x := 0) (by omega) (by omega), bo_some, bo_some, ct_u cc, bo_some, ct_n cc (x := 1) (by omega) (by omega), bo_some, show oE 5 = some 5 from rfl, bo_some, show P_EN_ordinal Θ N h 5 = some (J 5, h) from rfl, bc_some, show oSw (J 5) = some (J 6) from rfl, bo_some, if_neg (show ¬ ((J 6).toInt < 1 ∨ 12 < (J 6).toInt) by decide), if_neg (show ¬ (J 6 : Int32) = J 1 by decide), if_neg (show ¬ (J 6 : Int32) = J 2 by decide), if_neg (show ¬ (J 6 : Int32) = J 3 by decide), if_neg (show ¬ (J 6 : Int32) = J 4 by decide), if_neg (show ¬ (J 6 : Int32) = J 5 by decide), if_pos (show (J 6 : Int32) = J 6 from rfl)]
    simp only [gO_bx, bo_bx]
    rfl
  · have z8 : S 8 (4 * d) = 5 := hr.1
    unfold P_R_does
    rw [r_A19 hb, bo_some, J_add (4 * d) 1, r_a8 hb (by omega) (by omega), bo_some, bo_some, J_add (4 * d) 2, r_a8 hb (by omega) (by omega), bo_some, bo_some, r_a8 hb (by omega) (by omega), bo_some, z8, if_neg (show ¬ ((J 5).toInt < 0 ∨ 10 < (J 5).toInt) by decide), if_neg (show ¬ (J 5 : Int32) = J 0 by decide), if_neg (show ¬ (J 5 : Int32) = J 1 by decide), if_neg (show ¬ (J 5 : Int32) = J 2 by decide), if_neg (show ¬ (J 5 : Int32) = J 3 by decide), if_neg (show ¬ (J 5 : Int32) = J 4 by decide), if_pos (show (J 5 : Int32) = J 5 from rfl), bo_some, r_a8 hb (by omega) (by omega), bo_some, z8, J_sub 6 5, show (6 : Int) - 5 = 1 from rfl, r_O hb]
theorem cm_6 (mi : mI Θ) (hN : 2000 ≤ N) (kx : KX Θ f c h S bO) (c0 : 0 ≤ c) (c1 : c ≤ 2000) (cc : CT Θ (f + 151) (f + 154) q v n τ T U h) (h4 : T 0 4 = mwad Θ 6) {ns : List Int} (hk : kept T U ns) (hr : rcN S d 6 ns) (hl : ns.length = 0) (hg : ∀ x, x ∈ ns → rg x) (d0 : 0 ≤ d) (d1 : d ≤ 28) : CM1 Θ N f m c h S bO d := by
  refine cm_of (pc := pcG Θ N f (J 0)) (pr := fun h => P_R_gates Θ N h m (J 0)) (by decide) (in_gat (N := N) (x := 0) (Or.inl rfl)) c0 c1 kx ((suc_eq mi kx cc (by decide) h4).trans (congrArg (fun p => bx p _ _) ?_)) (fun h2 hb => ?_)
  · unfold P_F_carryOut
    rw [kx.r6, bo_some, ct_u cc, bo_some, ct_n cc (x := 0) (by omega) (by omega), bo_some, bo_some, ct_u cc, bo_some, ct_n cc (x := 1) (by omega) (by omega), bo_some, show oE 6 = some 6 from rfl, bo_some, show P_EN_ordinal Θ N h 6 = some (J 6, h) from rfl, bc_some, show oSw (J 6) = some (J 7) from rfl, bo_some, if_neg (show ¬ ((J 7).toInt < 1 ∨ 12 < (J 7).toInt) by decide), if_neg (show ¬ (J 7 : Int32) = J 1 by decide), if_neg (show ¬ (J 7 : Int32) = J 2 by decide), if_neg (show ¬ (J 7 : Int32) = J 3 by decide), if_neg (show ¬ (J 7 : Int32) = J 4 by decide), if_neg (show ¬ (J 7 : Int32) = J 5 by decide), if_neg (show ¬ (J 7 : Int32) = J 6 by decide), if_pos (show (J 7 : Int32) = J 7 from rfl)]
    simp only [gO_bx, bo_bx]
    rfl
  · have z8 : S 8 (4 * d) = 6 := hr.1
    unfold P_R_does
    rw [r_A19 hb, bo_some, J_add (4 * d) 1, r_a8 hb (by omega) (by omega), bo_some, bo_some, J_add (4 * d) 2, r_a8 hb (by omega) (by omega), bo_some, bo_some, r_a8 hb (by omega) (by omega), bo_some, z8, if_neg (show ¬ ((J 6).toInt < 0 ∨ 10 < (J 6).toInt) by decide), if_neg (show ¬ (J 6 : Int32) = J 0 by decide), if_neg (show ¬ (J 6 : Int32) = J 1 by decide), if_neg (show ¬ (J 6 : Int32) = J 2 by decide), if_neg (show ¬ (J 6 : Int32) = J 3 by decide), if_neg (show ¬ (J 6 : Int32) = J 4 by decide), if_neg (show ¬ (J 6 : Int32) = J 5 by decide), if_pos (show (J 6 : Int32) = J 6 from rfl), bo_some, r_a8 hb (by omega) (by omega), bo_some, z8, J_sub 6 6, show (6 : Int) - 6 = 0 from rfl, r_O hb]
theorem cm_7 (mi : mI Θ) (hN : 2000 ≤ N) (kx : KX Θ f c h S bO) (c0 : 0 ≤ c) (c1 : c ≤ 2000) (cc : CT Θ (f + 151) (f + 154) q v n τ T U h) (h4 : T 0 4 = mwad Θ 7) {ns : List Int} (hk : kept T U ns) (hr : rcN S d 7 ns) (hl : ns.length = 1) (hg : ∀ x, x ∈ ns → rg x) (d0 : 0 ≤ d) (d1 : d ≤ 28) : CM1 Θ N f m c h S bO d := by
  obtain ⟨x0, u0, s0, g0⟩ := kp hk hr 0 (by omega) hg
  have t0 : int' x0 := ⟨by have := g0.1; omega, by have := g0.2; omega⟩
  have w0 : U 0 (0 : Int) = x0 := u0
  have y0 : S 8 (4 * d + 1) = x0 := by rw [← s0]; exact congrArg (S 8) (by omega)
  refine cm_of (pc := pcP Θ N f (J x0)) (pr := fun h => P_R_pumps Θ N h m (J x0)) (by decide) (in_pum (N := N) t0) c0 c1 kx ((suc_eq mi kx cc (by decide) h4).trans (congrArg (fun p => bx p _ _) ?_)) (fun h2 hb => ?_)
  · unfold P_F_carryOut
    rw [kx.r6, bo_some, ct_u cc, bo_some, ct_n cc (x := 0) (by omega) (by omega), bo_some, bo_some, ct_u cc, bo_some, ct_n cc (x := 1) (by omega) (by omega), bo_some, show oE 7 = some 7 from rfl, bo_some, show P_EN_ordinal Θ N h 7 = some (J 7, h) from rfl, bc_some, show oSw (J 7) = some (J 8) from rfl, bo_some, if_neg (show ¬ ((J 8).toInt < 1 ∨ 12 < (J 8).toInt) by decide), if_neg (show ¬ (J 8 : Int32) = J 1 by decide), if_neg (show ¬ (J 8 : Int32) = J 2 by decide), if_neg (show ¬ (J 8 : Int32) = J 3 by decide), if_neg (show ¬ (J 8 : Int32) = J 4 by decide), if_neg (show ¬ (J 8 : Int32) = J 5 by decide), if_neg (show ¬ (J 8 : Int32) = J 6 by decide), if_neg (show ¬ (J 8 : Int32) = J 7 by decide), if_pos (show (J 8 : Int32) = J 8 from rfl)]
    simp only [gO_bx, bo_bx, w0]
    rfl
  · have z8 : S 8 (4 * d) = 7 := hr.1
    unfold P_R_does
    rw [r_A19 hb, bo_some, J_add (4 * d) 1, r_a8 hb (by omega) (by omega), bo_some, bo_some, J_add (4 * d) 2, r_a8 hb (by omega) (by omega), bo_some, bo_some, r_a8 hb (by omega) (by omega), bo_some, z8, if_neg (show ¬ ((J 7).toInt < 0 ∨ 10 < (J 7).toInt) by decide), if_neg (show ¬ (J 7 : Int32) = J 0 by decide), if_neg (show ¬ (J 7 : Int32) = J 1 by decide), if_neg (show ¬ (J 7 : Int32) = J 2 by decide), if_neg (show ¬ (J 7 : Int32) = J 3 by decide), if_neg (show ¬ (J 7 : Int32) = J 4 by decide), if_neg (show ¬ (J 7 : Int32) = J 5 by decide), if_neg (show ¬ (J 7 : Int32) = J 6 by decide), if_pos (show (J 7 : Int32) = J 7 from rfl), r_O hb, y0]
theorem cm_8 (mi : mI Θ) (hN : 2000 ≤ N) (kx : KX Θ f c h S bO) (c0 : 0 ≤ c) (c1 : c ≤ 2000) (cc : CT Θ (f + 151) (f + 154) q v n τ T U h) (h4 : T 0 4 = mwad Θ 8) {ns : List Int} (hk : kept T U ns) (hr : rcN S d 8 ns) (hl : ns.length = 1) (hg : ∀ x, x ∈ ns → rg x) (d0 : 0 ≤ d) (d1 : d ≤ 28) : CM1 Θ N f m c h S bO d := by
  obtain ⟨x0, u0, s0, g0⟩ := kp hk hr 0 (by omega) hg
  have t0 : int' x0 := ⟨by have := g0.1; omega, by have := g0.2; omega⟩
  have w0 : U 0 (0 : Int) = x0 := u0
  have y0 : S 8 (4 * d + 1) = x0 := by rw [← s0]; exact congrArg (S 8) (by omega)
  refine cm_of (pc := pcW Θ N f (J x0)) (pr := fun h => P_R_waits Θ N h m (J x0)) (by decide) (in_wai (N := N) t0 hN) c0 c1 kx ((suc_eq mi kx cc (by decide) h4).trans (congrArg (fun p => bx p _ _) ?_)) (fun h2 hb => ?_)
  · unfold P_F_carryOut
    rw [kx.r6, bo_some, ct_u cc, bo_some, ct_n cc (x := 0) (by omega) (by omega), bo_some, bo_some, ct_u cc, bo_some, ct_n cc (x := 1) (by omega) (by omega), bo_some, show oE 8 = some 8 from rfl, bo_some, show P_EN_ordinal Θ N h 8 = some (J 8, h) from rfl, bc_some, show oSw (J 8) = some (J 9) from rfl, bo_some, if_neg (show ¬ ((J 9).toInt < 1 ∨ 12 < (J 9).toInt) by decide), if_neg (show ¬ (J 9 : Int32) = J 1 by decide), if_neg (show ¬ (J 9 : Int32) = J 2 by decide), if_neg (show ¬ (J 9 : Int32) = J 3 by decide), if_neg (show ¬ (J 9 : Int32) = J 4 by decide), if_neg (show ¬ (J 9 : Int32) = J 5 by decide), if_neg (show ¬ (J 9 : Int32) = J 6 by decide), if_neg (show ¬ (J 9 : Int32) = J 7 by decide), if_neg (show ¬ (J 9 : Int32) = J 8 by decide), if_pos (show (J 9 : Int32) = J 9 from rfl)]
    simp only [gO_bx, bo_bx, w0]
    rfl
  · have z8 : S 8 (4 * d) = 8 := hr.1
    unfold P_R_does
    rw [r_A19 hb, bo_some, J_add (4 * d) 1, r_a8 hb (by omega) (by omega), bo_some, bo_some, J_add (4 * d) 2, r_a8 hb (by omega) (by omega), bo_some, bo_some, r_a8 hb (by omega) (by omega), bo_some, z8, if_neg (show ¬ ((J 8).toInt < 0 ∨ 10 < (J 8).toInt) by decide), if_neg (show ¬ (J 8 : Int32) = J 0 by decide), if_neg (show ¬ (J 8 : Int32) = J 1 by decide), if_neg (show ¬ (J 8 : Int32) = J 2 by decide), if_neg (show ¬ (J 8 : Int32) = J 3 by decide), if_neg (show ¬ (J 8 : Int32) = J 4 by decide), if_neg (show ¬ (J 8 : Int32) = J 5 by decide), if_neg (show ¬ (J 8 : Int32) = J 6 by decide), if_neg (show ¬ (J 8 : Int32) = J 7 by decide), if_pos (show (J 8 : Int32) = J 8 from rfl), r_O hb, y0]
theorem cm_9 (mi : mI Θ) (hN : 2000 ≤ N) (kx : KX Θ f c h S bO) (c0 : 0 ≤ c) (c1 : c ≤ 2000) (cc : CT Θ (f + 151) (f + 154) q v n τ T U h) (h4 : T 0 4 = mwad Θ 9) {ns : List Int} (hk : kept T U ns) (hr : rcN S d 9 ns) (hl : ns.length = 1) (hg : ∀ x, x ∈ ns → rg x) (d0 : 0 ≤ d) (d1 : d ≤ 28) : CM1 Θ N f m c h S bO d := by
  obtain ⟨x0, u0, s0, g0⟩ := kp hk hr 0 (by omega) hg
  have t0 : int' x0 := ⟨by have := g0.1; omega, by have := g0.2; omega⟩
  have w0 : U 0 (0 : Int) = x0 := u0
  have y0 : S 8 (4 * d + 1) = x0 := by rw [← s0]; exact congrArg (S 8) (by omega)
  refine cm_of (pc := pcB Θ N f (J x0)) (pr := fun h => P_R_lays Θ N h m (J x0)) (by decide) (in_lay (N := N) t0 hN) c0 c1 kx ((suc_eq mi kx cc (by decide) h4).trans (congrArg (fun p => bx p _ _) ?_)) (fun h2 hb => ?_)
  · unfold P_F_carryOut
    rw [kx.r6, bo_some, ct_u cc, bo_some, ct_n cc (x := 0) (by omega) (by omega), bo_some, bo_some, ct_u cc, bo_some, ct_n cc (x := 1) (by omega) (by omega), bo_some, show oE 9 = some 9 from rfl, bo_some, show P_EN_ordinal Θ N h 9 = some (J 9, h) from rfl, bc_some, show oSw (J 9) = some (J 10) from rfl, bo_some, if_neg (show ¬ ((J 10).toInt < 1 ∨ 12 < (J 10).toInt) by decide), if_neg (show ¬ (J 10 : Int32) = J 1 by decide), if_neg (show ¬ (J 10 : Int32) = J 2 by decide), if_neg (show ¬ (J 10 : Int32) = J 3 by decide), if_neg (show ¬ (J 10 : Int32) = J 4 by decide), if_neg (show ¬ (J 10 : Int32) = J 5 by decide), if_neg (show ¬ (J 10 : Int32) = J 6 by decide), if_neg (show ¬ (J 10 : Int32) = J 7 by decide), if_neg (show ¬ (J 10 : Int32) = J 8 by decide), if_neg (show ¬ (J 10 : Int32) = J 9 by decide), if_pos (show (J 10 : Int32) = J 10 from rfl)]
    simp only [gO_bx, bo_bx, w0]
    rfl
  · have z8 : S 8 (4 * d) = 9 := hr.1
    unfold P_R_does
    rw [r_A19 hb, bo_some, J_add (4 * d) 1, r_a8 hb (by omega) (by omega), bo_some, bo_some, J_add (4 * d) 2, r_a8 hb (by omega) (by omega), bo_some, bo_some, r_a8 hb (by omega) (by omega), bo_some, z8, if_neg (show ¬ ((J 9).toInt < 0 ∨ 10 < (J 9).toInt) by decide), if_neg (show ¬ (J 9 : Int32) = J 0 by decide), if_neg (show ¬ (J 9 : Int32) = J 1 by decide), if_neg (show ¬ (J 9 : Int32) = J 2 by decide), if_neg (show ¬ (J 9 : Int32) = J 3 by decide), if_neg (show ¬ (J 9 : Int32) = J 4 by decide), if_neg (show ¬ (J 9 : Int32) = J 5 by decide), if_neg (show ¬ (J 9 : Int32) = J 6 by decide), if_neg (show ¬ (J 9 : Int32) = J 7 by decide), if_neg (show ¬ (J 9 : Int32) = J 8 by decide), if_pos (show (J 9 : Int32) = J 9 from rfl), r_O hb, y0]
theorem cm_10 (mi : mI Θ) (hN : 2000 ≤ N) (kx : KX Θ f c h S bO) (c0 : 0 ≤ c) (c1 : c ≤ 2000) (cc : CT Θ (f + 151) (f + 154) q v n τ T U h) (h4 : T 0 4 = mwad Θ 10) {ns : List Int} (hk : kept T U ns) (hr : rcN S d 10 ns) (hl : ns.length = 1) (hg : ∀ x, x ∈ ns → rg x) (d0 : 0 ≤ d) (d1 : d ≤ 28) : CM1 Θ N f m c h S bO d := by
  obtain ⟨x0, u0, s0, g0⟩ := kp hk hr 0 (by omega) hg
  have t0 : int' x0 := ⟨by have := g0.1; omega, by have := g0.2; omega⟩
  have w0 : U 0 (0 : Int) = x0 := u0
  have y0 : S 8 (4 * d + 1) = x0 := by rw [← s0]; exact congrArg (S 8) (by omega)
  refine cm_of (pc := pcU Θ N f (J x0)) (pr := fun h => P_R_takes Θ N h m (J x0)) (by decide) (in_tak (N := N) t0 hN) c0 c1 kx ((suc_eq mi kx cc (by decide) h4).trans (congrArg (fun p => bx p _ _) ?_)) (fun h2 hb => ?_)
  · unfold P_F_carryOut
    rw [kx.r6, bo_some, ct_u cc, bo_some, ct_n cc (x := 0) (by omega) (by omega), bo_some, bo_some, ct_u cc, bo_some, ct_n cc (x := 1) (by omega) (by omega), bo_some, show oE 10 = some 10 from rfl, bo_some, show P_EN_ordinal Θ N h 10 = some (J 10, h) from rfl, bc_some, show oSw (J 10) = some (J 11) from rfl, bo_some, if_neg (show ¬ ((J 11).toInt < 1 ∨ 12 < (J 11).toInt) by decide), if_neg (show ¬ (J 11 : Int32) = J 1 by decide), if_neg (show ¬ (J 11 : Int32) = J 2 by decide), if_neg (show ¬ (J 11 : Int32) = J 3 by decide), if_neg (show ¬ (J 11 : Int32) = J 4 by decide), if_neg (show ¬ (J 11 : Int32) = J 5 by decide), if_neg (show ¬ (J 11 : Int32) = J 6 by decide), if_neg (show ¬ (J 11 : Int32) = J 7 by decide), if_neg (show ¬ (J 11 : Int32) = J 8 by decide), if_neg (show ¬ (J 11 : Int32) = J 9 by decide), if_neg (show ¬ (J 11 : Int32) = J 10 by decide), if_pos (show (J 11 : Int32) = J 11 from rfl)]
    simp only [gO_bx, bo_bx, w0]
    rfl
  · have z8 : S 8 (4 * d) = 10 := hr.1
    unfold P_R_does
    rw [r_A19 hb, bo_some, J_add (4 * d) 1, r_a8 hb (by omega) (by omega), bo_some, bo_some, J_add (4 * d) 2, r_a8 hb (by omega) (by omega), bo_some, bo_some, r_a8 hb (by omega) (by omega), bo_some, z8, if_neg (show ¬ ((J 10).toInt < 0 ∨ 10 < (J 10).toInt) by decide), if_neg (show ¬ (J 10 : Int32) = J 0 by decide), if_neg (show ¬ (J 10 : Int32) = J 1 by decide), if_neg (show ¬ (J 10 : Int32) = J 2 by decide), if_neg (show ¬ (J 10 : Int32) = J 3 by decide), if_neg (show ¬ (J 10 : Int32) = J 4 by decide), if_neg (show ¬ (J 10 : Int32) = J 5 by decide), if_neg (show ¬ (J 10 : Int32) = J 6 by decide), if_neg (show ¬ (J 10 : Int32) = J 7 by decide), if_neg (show ¬ (J 10 : Int32) = J 8 by decide), if_neg (show ¬ (J 10 : Int32) = J 9 by decide), if_pos (show (J 10 : Int32) = J 10 from rfl), r_O hb, y0]
theorem cm_11 (mi : mI Θ) (hN : 2000 ≤ N) (kx : KX Θ f c h S bO) (c0 : 0 ≤ c) (c1 : c ≤ 2000) (cc : CT Θ (f + 151) (f + 154) q v n τ T U h) (h4 : T 0 4 = mwad Θ 11) {ns : List Int} (hk : kept T U ns) (hr : rcN S d 11 ns) (hl : ns.length = 2) (hg : ∀ x, x ∈ ns → rg x) (d0 : 0 ≤ d) (d1 : d ≤ 28) : CM1 Θ N f m c h S bO d := by
  obtain ⟨x0, u0, s0, g0⟩ := kp hk hr 0 (by omega) hg
  have t0 : int' x0 := ⟨by have := g0.1; omega, by have := g0.2; omega⟩
  have w0 : U 0 (0 : Int) = x0 := u0
  have y0 : S 8 (4 * d + 1) = x0 := by rw [← s0]; exact congrArg (S 8) (by omega)
  obtain ⟨x1, u1, s1, g1⟩ := kp hk hr 1 (by omega) hg
  have t1 : int' x1 := ⟨by have := g1.1; omega, by have := g1.2; omega⟩
  have w1 : U 0 (1 : Int) = x1 := u1
  have y1 : S 8 (4 * d + 2) = x1 := by rw [← s1]; exact congrArg (S 8) (by omega)
  refine cm_of (pc := pcY Θ N f (J x0) (J x1)) (pr := fun h => P_R_pays Θ N h m (J x0) (J x1)) (by decide) (in_pay (N := N) t0 t1 hN) c0 c1 kx ((suc_eq mi kx cc (by decide) h4).trans (congrArg (fun p => bx p _ _) ?_)) (fun h2 hb => ?_)
  · unfold P_F_carryOut
    rw [kx.r6, bo_some, ct_u cc, bo_some, ct_n cc (x := 0) (by omega) (by omega), bo_some, bo_some, ct_u cc, bo_some, ct_n cc (x := 1) (by omega) (by omega), bo_some, show oE 11 = some 11 from rfl, bo_some, show P_EN_ordinal Θ N h 11 = some (J 11, h) from rfl, bc_some, show oSw (J 11) = some (J 12) from rfl, bo_some, if_neg (show ¬ ((J 12).toInt < 1 ∨ 12 < (J 12).toInt) by decide), if_neg (show ¬ (J 12 : Int32) = J 1 by decide), if_neg (show ¬ (J 12 : Int32) = J 2 by decide), if_neg (show ¬ (J 12 : Int32) = J 3 by decide), if_neg (show ¬ (J 12 : Int32) = J 4 by decide), if_neg (show ¬ (J 12 : Int32) = J 5 by decide), if_neg (show ¬ (J 12 : Int32) = J 6 by decide), if_neg (show ¬ (J 12 : Int32) = J 7 by decide), if_neg (show ¬ (J 12 : Int32) = J 8 by decide), if_neg (show ¬ (J 12 : Int32) = J 9 by decide), if_neg (show ¬ (J 12 : Int32) = J 10 by decide), if_neg (show ¬ (J 12 : Int32) = J 11 by decide), if_pos (show (J 12 : Int32) = J 12 from rfl)]
    simp only [gO_bx, bo_bx, w0, w1]
    rfl
  · have z8 : S 8 (4 * d) = 11 := hr.1
    unfold P_R_does
    rw [r_A19 hb, bo_some, J_add (4 * d) 1, r_a8 hb (by omega) (by omega), bo_some, bo_some, J_add (4 * d) 2, r_a8 hb (by omega) (by omega), bo_some, bo_some, r_a8 hb (by omega) (by omega), bo_some, z8, if_pos (show (J 11).toInt < 0 ∨ 10 < (J 11).toInt by decide), r_O hb, y0, y1]
theorem cm_all (mi : mI Θ) (hN : 2000 ≤ N) (kx : KX Θ f c h S bO) (c0 : 0 ≤ c) (c1 : c ≤ 2000) (cc : CT Θ (f + 151) (f + 154) q v n τ T U h) {k : Nat} (k12 : k < 12) (h4 : T 0 4 = mwad Θ k) {ns : List Int} (hk : kept T U ns) (hr : rcN S d k ns) (hl : ns.length = ar k) (hg : ∀ x, x ∈ ns → rg x) (d0 : 0 ≤ d) (d1 : d ≤ 28) : CM1 Θ N f m c h S bO d := by
  have kk : k = 0 ∨ k = 1 ∨ k = 2 ∨ k = 3 ∨ k = 4 ∨ k = 5 ∨ k = 6 ∨ k = 7 ∨ k = 8 ∨ k = 9 ∨ k = 10 ∨ k = 11 := by omega
  rcases kk with rfl | rfl | rfl | rfl | rfl | rfl | rfl | rfl | rfl | rfl | rfl | rfl
  · exact cm_0 mi hN kx c0 c1 cc h4 hk hr hl hg d0 d1
  · exact cm_1 mi hN kx c0 c1 cc h4 hk hr hl hg d0 d1
  · exact cm_2 mi hN kx c0 c1 cc h4 hk hr hl hg d0 d1
  · exact cm_3 mi hN kx c0 c1 cc h4 hk hr hl hg d0 d1
  · exact cm_4 mi hN kx c0 c1 cc h4 hk hr hl hg d0 d1
  · exact cm_5 mi hN kx c0 c1 cc h4 hk hr hl hg d0 d1
  · exact cm_6 mi hN kx c0 c1 cc h4 hk hr hl hg d0 d1
  · exact cm_7 mi hN kx c0 c1 cc h4 hk hr hl hg d0 d1
  · exact cm_8 mi hN kx c0 c1 cc h4 hk hr hl hg d0 d1
  · exact cm_9 mi hN kx c0 c1 cc h4 hk hr hl hg d0 d1
  · exact cm_10 mi hN kx c0 c1 cc h4 hk hr hl hg d0 d1
  · exact cm_11 mi hN kx c0 c1 cc h4 hk hr hl hg d0 d1
end CM
