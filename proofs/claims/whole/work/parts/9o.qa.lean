/-! the questions of the face -/
def OQ (Θ : mW) (f : Nat) (k : Int) (h : mH) (S : Nat → Int → Int) (tb : Int → Nat) (vp : Int → Prop) (pf : Option ((Int32 ⊕ Nat) × mH)) (pr : mH → Option (Int32 × mH)) : Prop :=
  ∃ (v T : Int) (h1 : mH), (pf = if T = 0 then some (.inl (J v), h1) else some (.inr (tb T), h1)) ∧ (0 ≤ T ∧ T ≤ 4) ∧ (T ≠ 0 → tb T ≠ 0) ∧ (T = 0 → vp v) ∧ (∃ S', ZW Θ f (k + 1) h1 S S') ∧ ∀ h2, bOK Θ 9 (f + 157) h2 → ∃ (v' : Int) (S' : Nat → Int → Int), pr (HR Θ (f + 157) S h2) = some (J v', HR Θ (f + 157) S' h2) ∧ S' 0 13 = T ∧ (T = 0 → v' = v) ∧ ZW Θ f (k + 1) h1 S S'
def OPn (Θ : mW) (f : Nat) (k : Int) (h : mH) (S : Nat → Int → Int) (pf : Option (Int32 × mH)) (pr : mH → Option (Int32 × mH)) : Prop :=
  ∃ (v : Int) (S' : Nat → Int → Int) (h1 : mH), pf = some (J v, h1) ∧ pr (HR Θ (f + 157) S h1) = some (J v, HR Θ (f + 157) S' h1) ∧ ZW Θ f (k + 1) h1 S S'
section QA
variable {Θ : mW} {N f b : Nat} {c k : Int} {S S' S2 : Nat → Int → Int} {h h2 : mH} {tb : Int → Nat} {vp : Int → Prop} {pf : Option ((Int32 ⊕ Nat) × mH)} {pn : Option (Int32 × mH)} {pr : mH → Option (Int32 × mH)} {D : Nat → Int → Int} {V : Int → Int}
theorem OPc.to (o : OPc Θ f k h S tb vp pf pr) : OQ Θ f k h S tb vp pf pr := by
  obtain ⟨v, v', S', h1, a1, a2, a3, a4, a5, a6, a7⟩ := o
  exact ⟨v, S' 0 13, h1, a1, a5, a6, a7, ⟨S', a4⟩, fun h2 hb => ⟨v', S', a2 h2 hb, rfl, a3, a4⟩⟩
theorem zw_t (ww : ZW Θ f k h S S) {T : Int} : ZW Θ f (k + 1) h S (T13 S T) := by
  have n := ww.2.2.2.1
  exact ww.cls (P := fun _ => False) Nx.refl (by omega) (by omega) (fun _ q => q.elim) ((ww.1.mono (by omega)).sm Sm.t) (T13_j (by decide)) (T13_j (by decide)) (by rw [T13_j (by decide)]; exact n.2.2.1) (T13_j (by decide)) (T13_j (by decide)) (T13_o (by decide)) (T13_o (by decide))
theorem zw_e (ww : ZW Θ f k h S S) {T : Int} {n : Nat} : ZW Θ f (k + 1) (h ++ [oB n []]) S (T13 S T) := by
  have q := ww.2.2.2.1
  have x : Nx Θ h (h ++ [oB n []]) (fun _ => False) 1 6 := Nx.ex
  exact ww.cls x (by omega) (by omega) (fun _ q => q.elim) (((ww.1.mono (by omega)).nx x (fun _ _ z => z)).sm Sm.t) (T13_j (by decide)) (T13_j (by decide)) (by rw [T13_j (by decide)]; exact q.2.2.1) (T13_j (by decide)) (T13_j (by decide)) (T13_o (by decide)) (T13_o (by decide))
theorem q_ok (ww : ZW Θ f k h S S) {v : Int} (hp : pf = some (.inl (J v), h)) (hr : ∀ h2, bOK Θ 9 (f + 157) h2 → pr (HR Θ (f + 157) S h2) = some (J v, HR Θ (f + 157) (T13 S 0) h2)) (hv : vp v) : OQ Θ f k h S tb vp pf pr :=
  ⟨v, 0, h, hp, by omega, fun z => (z rfl).elim, fun _ => hv, ⟨_, zw_t (T := 0) ww⟩, fun h2 hb => ⟨v, T13 S 0, hr h2 hb, T13_t, fun _ => rfl, zw_t ww⟩⟩
theorem q_ex (ww : ZW Θ f k h S S) {T : Int} {n : Nat} (T1 : 1 ≤ T) (T2 : T ≤ 4) (hn : tb T = n) (hp : pf = some (.inr n, h ++ [oB n []])) (hr : ∀ h2, bOK Θ 9 (f + 157) h2 → pr (HR Θ (f + 157) S h2) = some (J 0, HR Θ (f + 157) (T13 S T) h2)) (n0 : n ≠ 0 := by decide) : OQ Θ f k h S tb vp pf pr :=
  ⟨0, T, h ++ [oB n []], by rw [if_neg (by omega), hn, hp], by omega, fun _ => by rw [hn]; exact n0, fun z => by omega, ⟨_, zw_e (T := T) ww⟩, fun h2 hb => ⟨0, T13 S T, hr h2 hb, T13_t, fun z => by omega, zw_e ww⟩⟩
theorem q_n (ww : ZW Θ f k h S S) {v : Int} (hp : pn = some (J v, h)) (hr : ∀ h2, bOK Θ 9 (f + 157) h2 → pr (HR Θ (f + 157) S h2) = some (J v, HR Θ (f + 157) (T13 S 0) h2)) : OPn Θ f k h S pn pr :=
  ⟨v, T13 S 0, h, hp, hr h ww.2.2.1.1, zw_t ww⟩
theorem n_cnt (hs : HB Θ shD b D h) (hd : DV D V) : rI Θ h 2 (b + 1) 1 = some (J (V 4)) := by
  rw [← hd.sc.2.2.2.2.1]
  exact HB.xI hs (i := 1) rfl rfl
theorem n_lvl (hs : HB Θ shD b D h) (hd : DV D V) : rI Θ h 1 b 2 = some (J (V 1)) := by
  rw [← hd.sc.2.1]
  exact HB.xI hs (i := 0) rfl rfl
theorem n_gat (hs : HB Θ shD b D h) (hd : DV D V) : rI Θ h 1 b 3 = some (J (V 2)) := by
  rw [← hd.sc.2.2.1]
  exact HB.xI hs (i := 0) rfl rfl
theorem n_hou (hs : HB Θ shD b D h) (hd : DV D V) : rI Θ h 1 b 5 = some (J (V 0)) := by
  rw [← hd.sc.1]
  exact HB.xI hs (i := 0) rfl rfl
theorem n_pai (hs : HB Θ shD b D h) (hd : DV D V) : rI Θ h 1 b 7 = some (J (V 7)) := by
  rw [← hd.sc.2.2.2.2.2.2.2]
  exact HB.xI hs (i := 0) rfl rfl
theorem n_s (hs : HB Θ shD b D h) (hd : DV D V) (h4 : V 4 ≤ 8) {q i : Int} {w : Nat} (q0 : 0 ≤ q) (q1 : q < V 4) (i0 : 0 ≤ i) (i1 : i ≤ 8) (hw : sf i = w) (hk : ([none, none, none, none, none, none, none, none, none] : List (Option (Option Nat)))[w]? = some none) : rI Θ h 3 (b + 3 + ro D q) w = some (J (fd V q i)) := by
  rw [← hd.2.2.1 q q0 q1 i i0 i1, hw, Nat.add_assoc]
  exact HB.xI hs (shD_s (hd.rlt q0 (by omega))) hk
theorem n_0 (hs : HB Θ shD b D h) (hd : DV D V) (h4 : V 4 ≤ 8) {q : Int} (q0 : 0 ≤ q) (q1 : q < V 4) : rI Θ h 3 (b + 3 + ro D q) 0 = some (J (fd V q 0)) := n_s (w := 0) hs hd h4 q0 q1 (by decide) (by decide) rfl rfl
theorem n_3 (hs : HB Θ shD b D h) (hd : DV D V) (h4 : V 4 ≤ 8) {q : Int} (q0 : 0 ≤ q) (q1 : q < V 4) : rI Θ h 3 (b + 3 + ro D q) 3 = some (J (fd V q 3)) := n_s (w := 3) hs hd h4 q0 q1 (by decide) (by decide) rfl rfl
theorem n_4 (hs : HB Θ shD b D h) (hd : DV D V) (h4 : V 4 ≤ 8) {q : Int} (q0 : 0 ≤ q) (q1 : q < V 4) : rI Θ h 3 (b + 3 + ro D q) 4 = some (J (fd V q 6)) := n_s (w := 4) hs hd h4 q0 q1 (by decide) (by decide) rfl rfl
theorem n_5 (hs : HB Θ shD b D h) (hd : DV D V) (h4 : V 4 ≤ 8) {q : Int} (q0 : 0 ≤ q) (q1 : q < V 4) : rI Θ h 3 (b + 3 + ro D q) 5 = some (J (fd V q 7)) := n_s (w := 5) hs hd h4 q0 q1 (by decide) (by decide) rfl rfl
theorem n_6 (hs : HB Θ shD b D h) (hd : DV D V) (h4 : V 4 ≤ 8) {q : Int} (q0 : 0 ≤ q) (q1 : q < V 4) : rI Θ h 3 (b + 3 + ro D q) 6 = some (J (fd V q 8)) := n_s (w := 6) hs hd h4 q0 q1 (by decide) (by decide) rfl rfl
theorem n_7 (hs : HB Θ shD b D h) (hd : DV D V) (h4 : V 4 ≤ 8) {q : Int} (q0 : 0 ≤ q) (q1 : q < V 4) : rI Θ h 3 (b + 3 + ro D q) 7 = some (J (fd V q 4)) := n_s (w := 7) hs hd h4 q0 q1 (by decide) (by decide) rfl rfl
theorem gO3 (hs : HB Θ shD b D h) (hd : DV D V) {q : Int} (q0 : 0 ≤ q) (q1 : q < 8) {ρ : Type} {p : Option ρ} : gO Θ h 3 (b + 3 + ro D q) p = p := by
  rw [Nat.add_assoc]
  exact HB.xO hs (shD_s (hd.rlt q0 q1))
/-- class methods on the heap itself -/
theorem h_known (hN : 2000 ≤ N) (hs : HB Θ shD b D h) (hd : DV D V) (I : In c V) {id : Int} (i : int' id) : P_L_known Θ N h (b + 1) (J id) = if fnd V id (mny V) = -1 then some (.inr 10, h ++ [oB 10 []]) else some (.inl (b + 3 + ro D (fnd V id (mny V))), h) := by
  have e := c_known (N := N) hN hs.1 hd I i.1 i.2
  rwa [hs.hd, ex_hd hs] at e
theorem o_shipCount (ww : ZW Θ f k h S S) : OPn Θ f k h S (P_F_shipCount Θ N h f) (fun hh => P_R_shipCount Θ N hh (f + 157)) := by
  obtain ⟨b, D, r0, hs, hd, I, -, -⟩ := ww.1.now
  refine q_n ww ?_ (fun h2 hb => q_shipCount hb)
  unfold P_F_shipCount
  rw [r0, bo_some, rA10 hs, bo_some, n_cnt hs hd, bo_some]
theorem o_isGateOpen (ww : ZW Θ f k h S S) : OPn Θ f k h S (P_F_isGateOpen Θ N h f) (fun hh => P_R_isGateOpen Θ N hh (f + 157)) := by
  obtain ⟨b, D, r0, hs, hd, I, -, -⟩ := ww.1.now
  refine q_n ww ?_ (fun h2 hb => q_isGateOpen hb (Inv.ok I))
  unfold P_F_isGateOpen
  rw [r0, bo_some, n_gat hs hd, bo_some]
  rcases I.h2 with z | z <;> rw [z] <;> simp
theorem o_level (ww : ZW Θ f k h S S) : OPn Θ f k h S (P_F_level Θ N h f) (fun hh => P_R_level Θ N hh (f + 157)) := by
  obtain ⟨b, D, r0, hs, hd, I, -, -⟩ := ww.1.now
  refine q_n ww ?_ (fun h2 hb => q_level hb)
  unfold P_F_level
  rw [r0, bo_some, n_lvl hs hd, bo_some]
theorem o_hour (ww : ZW Θ f k h S S) : OPn Θ f k h S (P_F_hour Θ N h f) (fun hh => P_R_hour Θ N hh (f + 157)) := by
  obtain ⟨b, D, r0, hs, hd, I, -, -⟩ := ww.1.now
  refine q_n ww ?_ (fun h2 hb => q_hour hb)
  unfold P_F_hour
  rw [r0, bo_some, n_hou hs hd, bo_some]
theorem o_paidTotal (ww : ZW Θ f k h S S) : OPn Θ f k h S (P_F_paidTotal Θ N h f) (fun hh => P_R_paidTotal Θ N hh (f + 157)) := by
  obtain ⟨b, D, r0, hs, hd, I, -, -⟩ := ww.1.now
  refine q_n ww ?_ (fun h2 hb => q_paidTotal hb)
  unfold P_F_paidTotal
  rw [r0, bo_some, n_pai hs hd, bo_some]
theorem h_taken (hN : 2000 ≤ N) (hs : HB Θ shD b D h) (hd : DV D V) (I : In c V) : P_L_takenMetres Θ N h (b + 1) = some (J (tkn V (mny V)), h) := by
  have e := c_takenMetres (N := N) hN hs.1 hd I
  rwa [hs.hd] at e
theorem h_billSum (hN : 2000 ≤ N) (hs : HB Θ shD b D h) (hd : DV D V) (I : In c V) : P_L_billSum Θ N h (b + 1) = some (J (smm V 8 (mny V)), h) := by
  have e := c_billSum (N := N) hN hs.1 hd I
  rwa [hs.hd] at e
theorem h_accounts (hs : HB Θ shD b D h) (hd : DV D V) : P_D_billsByAccount Θ N h b = some (J (V 6 - V 7), h) := by
  have e := c_accounts (N := N) hs.1 hd
  rwa [hs.hd] at e
theorem o_freeMetres (hN : 2000 ≤ N) (ww : ZW Θ f k h S S) : OPn Θ f k h S (P_F_freeMetres Θ N h f) (fun hh => P_R_freeMetres Θ N hh (f + 157)) := by
  obtain ⟨b, D, r0, hs, hd, I, -, -⟩ := ww.1.now
  have t := tkn_frm I
  refine q_n ww (v := frm (S 1) 60) ?_ (fun h2 hb => q_freeMetres hN hb (Inv.ok I))
  unfold P_F_freeMetres
  rw [r0, bo_some, rA10 hs, bo_some, gO2 hs, h_taken hN hs hd I, bc_some, J_sub]
  exact congrArg (fun q => some (J q, h)) (by omega)
theorem o_billTotal (hN : 2000 ≤ N) (ww : ZW Θ f k h S S) : OPn Θ f k h S (P_F_billTotal Θ N h f) (fun hh => P_R_billTotal Θ N hh (f + 157)) := by
  obtain ⟨b, D, r0, hs, hd, I, -, -⟩ := ww.1.now
  refine q_n ww ?_ (fun h2 hb => q_billTotal hN hb (Inv.ok I))
  unfold P_F_billTotal
  rw [r0, bo_some, rA10 hs, bo_some, gO2 hs, h_billSum hN hs hd I, bc_some]
theorem o_billByAcc (ww : ZW Θ f k h S S) : OPn Θ f k h S (P_F_billTotalByAccount Θ N h f) (fun hh => P_R_billTotalByAccount Θ N hh (f + 157)) := by
  obtain ⟨b, D, r0, hs, hd, I, -, -⟩ := ww.1.now
  refine q_n ww ?_ (fun h2 hb => q_billTotalByAccount hb)
  unfold P_F_billTotalByAccount
  rw [r0, bo_some, gO1 hs, h_accounts hs hd, bc_some]
theorem o_shipAt {p : Int} (hp : int' p) (ww : ZW Θ f k h S S) : OQ Θ f k h S (tbl [14]) (fun _ => True) (P_F_shipAt Θ N h f (J p)) (fun hh => P_R_shipAt Θ N hh (f + 157) (J p)) := by
  obtain ⟨b, D, r0, hs, hd, I, -, -⟩ := ww.1.now
  have h4 := I.h4
  have q : ∀ h2, bOK Θ 9 (f + 157) h2 → _ := fun h2 hb => q_shipAt (N := N) (S := S) (h := h2) hb (Inv.ok I) hp.1 hp.2
  have e : P_F_shipAt Θ N h f (J p) = if 0 ≤ p ∧ p ≤ S 1 4 - 1 then some (.inl (J (fd (S 1) p 0)), h) else some (.inr 14, h ++ [oB 14 []]) := by
    unfold P_F_shipAt
    by_cases c0 : p < 0
    · rw [if_pos (by rw [J_lt0 hp.1 hp.2]; exact c0), if_neg (by omega)]
      rfl
    · rw [if_neg (by rw [J_lt0 hp.1 hp.2]; exact c0), r0, bo_some, rA10 hs, bo_some, n_cnt hs hd, bo_some]
      by_cases c1 : p < S 1 4
      · have rq : aRQ Θ h 5 (b + 2) (J p) = some (b + 3 + ro D p) := HB.xQ hs (i := 2) (n := 8) rfl (by omega) (by omega) (by omega)
        have ra : rA Θ h 2 (b + 1) 0 = some (b + 2) := HB.xA hs (i := 1) rfl rfl
        rw [if_pos (by rw [J_lt hp.1 hp.2 (by omega) (by omega)]; exact c1), if_pos (by omega), bo_some, rA10 hs, bo_some, ra, bo_some, rq, bo_some, n_0 hs hd h4.2 (by omega) c1, bo_some]
      · rw [if_neg (by rw [J_lt hp.1 hp.2 (by omega) (by omega)]; exact c1), if_neg (by omega)]
        rfl
  by_cases cc : 0 ≤ p ∧ p ≤ S 1 4 - 1
  · simp only [if_pos cc] at q e
    exact q_ok ww e q trivial
  · simp only [if_neg cc] at q e
    exact q_ex ww (T := 1) (by omega) (by omega) rfl e q
theorem o_isInDock {i : Int} (hi : int' i) (hN : 2000 ≤ N) (ww : ZW Θ f k h S S) : OQ Θ f k h S (tbl [10]) (fun v => v = 0 ∨ v = 1) (P_F_isInDock Θ N h f (J i)) (fun hh => P_R_isInDock Θ N hh (f + 157) (J i)) := by
  obtain ⟨b, D, r0, hs, hd, I, -, -⟩ := ww.1.now
  have h4 := I.h4
  have q : ∀ h2, bOK Θ 9 (f + 157) h2 → _ := fun h2 hb => q_isInDock (N := N) (S := S) (h := h2) hN hb (Inv.ok I) hi.1 hi.2
  have e : P_F_isInDock Θ N h f (J i) = P_F_isInDock Θ N h f (J i) := rfl
  conv at e =>
    rhs
    unfold P_F_isInDock
    rw [r0, bo_some, rA10 hs, bo_some, gO2 hs, h_known hN hs hd I hi]
  by_cases cc : fnd (S 1) i (mny (S 1)) = -1
  · simp only [if_pos cc] at q e
    exact q_ex ww (T := 1) (by omega) (by omega) rfl e q
  · simp only [if_neg cc] at q e
    have fl := fnd_lt I cc
    have d := c_isDocked (N := N) hs.1 hd I fl.1 fl.2
    rw [hs.hd] at d
    rw [bx_inl, gO3 hs hd fl.1 (by omega), d, bc_some, fin_b (by split <;> simp)] at e
    exact q_ok ww e q (by split <;> simp)
theorem o_positionOf {i : Int} (hi : int' i) (hN : 2000 ≤ N) (ww : ZW Θ f k h S S) : OQ Θ f k h S (tbl [10, 12]) (fun _ => True) (P_F_positionOf Θ N h f (J i)) (fun hh => P_R_positionOf Θ N hh (f + 157) (J i)) := by
  obtain ⟨b, D, r0, hs, hd, I, -, -⟩ := ww.1.now
  have h4 := I.h4
  have q : ∀ h2, bOK Θ 9 (f + 157) h2 → _ := fun h2 hb => q_positionOf (N := N) (S := S) (h := h2) hN hb (Inv.ok I) hi.1 hi.2
  have d := c_dockedOne (N := N) hN hs.1 hd I hi.1 hi.2
  rw [hs.hd, ex_hd hs, ex_hd hs] at d
  have e : P_F_positionOf Θ N h f (J i) = P_F_positionOf Θ N h f (J i) := rfl
  conv at e =>
    rhs
    unfold P_F_positionOf
    rw [r0, bo_some, rA10 hs, bo_some, gO2 hs, d]
  by_cases cc : fnd (S 1) i (mny (S 1)) = -1
  · simp only [if_pos cc] at q e
    exact q_ex ww (T := 1) (by omega) (by omega) rfl e q
  · simp only [if_neg cc] at q e
    have fl := fnd_lt I cc
    by_cases c2 : fd (S 1) (fnd (S 1) i (mny (S 1))) 4 = -1
    · simp only [if_pos c2] at q e
      exact q_ex ww (T := 2) (by omega) (by omega) rfl e q
    · simp only [if_neg c2] at q e
      rw [bx_inl, n_7 hs hd h4.2 fl.1 fl.2, bo_some] at e
      exact q_ok ww e q trivial
theorem o_ask {i j : Int} (hi : int' i) (hN : 2000 ≤ N) (ww : ZW Θ f k h S S) (j0 : 0 ≤ j) (j1 : j ≤ 8) {w : Nat} (hw : sf j = w) (hk : ([none, none, none, none, none, none, none, none, none] : List (Option (Option Nat)))[w]? = some none) : OQ Θ f k h S (tbl [10]) (fun _ => True) (bo (rA Θ h 0 f 0) (fun v1 => (bo (rA Θ h 1 v1 0) (fun v2 => (gO Θ h 2 v2 (bx (P_L_known Θ N h v2 (J i)) (fun v4 h3 => (bo (rI Θ h3 3 v4 w) (fun v5 => (some (.inl v5, h3))))) (fun n9 h9 => xp n9 h9))))))) (fun hh => gO Θ hh 9 (f + 157) (bc (P_R_asks Θ N hh (f + 157) (J i) (J j)) (fun v2 h1 => (some (v2, h1))))) := by
  obtain ⟨b, D, r0, hs, hd, I, -, -⟩ := ww.1.now
  have h4 := I.h4
  have q : ∀ h2, bOK Θ 9 (f + 157) h2 → _ := fun h2 hb => q_asks (N := N) (S := S) (h := h2) hN hb (Inv.ok I) hi.1 hi.2 j0 j1
  have e : (bo (rA Θ h 0 f 0) (fun v1 => (bo (rA Θ h 1 v1 0) (fun v2 => (gO Θ h 2 v2 (bx (P_L_known Θ N h v2 (J i)) (fun v4 h3 => (bo (rI Θ h3 3 v4 w) (fun v5 => (some ((.inl v5 : Int32 ⊕ Nat), h3))))) (fun n9 h9 => xp n9 h9))))))) = (bo (rA Θ h 0 f 0) (fun v1 => (bo (rA Θ h 1 v1 0) (fun v2 => (gO Θ h 2 v2 (bx (P_L_known Θ N h v2 (J i)) (fun v4 h3 => (bo (rI Θ h3 3 v4 w) (fun v5 => (some ((.inl v5 : Int32 ⊕ Nat), h3))))) (fun n9 h9 => xp n9 h9))))))) := rfl
  conv at e =>
    rhs
    rw [r0, bo_some, rA10 hs, bo_some, gO2 hs, h_known hN hs hd I hi]
  by_cases cc : fnd (S 1) i (mny (S 1)) = -1
  · simp only [if_pos cc] at q e
    refine q_ex ww (T := 1) (by omega) (by omega) rfl e (fun h2 hb => ?_)
    rw [r_O hb, q h2 hb, bc_some]
  · simp only [if_neg cc] at q e
    have fl := fnd_lt I cc
    rw [bx_inl, n_s hs hd h4.2 fl.1 fl.2 j0 j1 hw hk, bo_some] at e
    refine q_ok ww e (fun h2 hb => ?_) trivial
    rw [r_O hb, q h2 hb, bc_some]
theorem o_dirtOf {i : Int} (hi : int' i) (hN : 2000 ≤ N) (ww : ZW Θ f k h S S) : OQ Θ f k h S (tbl [10]) (fun _ => True) (P_F_dirtOf Θ N h f (J i)) (fun hh => P_R_dirtOf Θ N hh (f + 157) (J i)) := o_ask (j := 3) (w := 3) hi hN ww (by decide) (by decide) rfl rfl
theorem o_damageOf {i : Int} (hi : int' i) (hN : 2000 ≤ N) (ww : ZW Θ f k h S S) : OQ Θ f k h S (tbl [10]) (fun _ => True) (P_F_damageOf Θ N h f (J i)) (fun hh => P_R_damageOf Θ N hh (f + 157) (J i)) := o_ask (j := 6) (w := 4) hi hN ww (by decide) (by decide) rfl rfl
theorem o_hoursAfloat {i : Int} (hi : int' i) (hN : 2000 ≤ N) (ww : ZW Θ f k h S S) : OQ Θ f k h S (tbl [10]) (fun _ => True) (P_F_hoursAfloat Θ N h f (J i)) (fun hh => P_R_hoursAfloat Θ N hh (f + 157) (J i)) := o_ask (j := 7) (w := 5) hi hN ww (by decide) (by decide) rfl rfl
theorem o_billOf {i : Int} (hi : int' i) (hN : 2000 ≤ N) (ww : ZW Θ f k h S S) : OQ Θ f k h S (tbl [10]) (fun _ => True) (P_F_billOf Θ N h f (J i)) (fun hh => P_R_billOf Θ N hh (f + 157) (J i)) := o_ask (j := 8) (w := 6) hi hN ww (by decide) (by decide) rfl rfl
theorem o_isAfloat {i : Int} (hi : int' i) (hN : 2000 ≤ N) (ww : ZW Θ f k h S S) : OQ Θ f k h S (tbl [10]) (fun v => v = 0 ∨ v = 1) (P_F_isAfloat Θ N h f (J i)) (fun hh => P_R_isAfloat Θ N hh (f + 157) (J i)) := by
  obtain ⟨b, D, r0, hs, hd, I, -, -⟩ := ww.1.now
  have h4 := I.h4
  have q : ∀ h2, bOK Θ 9 (f + 157) h2 → _ := fun h2 hb => q_isAfloat (N := N) (S := S) (h := h2) hN hb (Inv.ok I) hi.1 hi.2
  have e : P_F_isAfloat Θ N h f (J i) = P_F_isAfloat Θ N h f (J i) := rfl
  conv at e =>
    rhs
    unfold P_F_isAfloat
    rw [r0, bo_some, rA10 hs, bo_some, gO2 hs, h_known hN hs hd I hi]
  by_cases cc : fnd (S 1) i (mny (S 1)) = -1
  · simp only [if_pos cc] at q e
    exact q_ex ww (T := 1) (by omega) (by omega) rfl e q
  · simp only [if_neg cc] at q e
    have fl := fnd_lt I cc
    have l := I.h1
    have d := c_floatsAt (N := N) hs.1 hd I fl.1 fl.2 (x := S 1 1) (by omega) (by omega)
    rw [hs.hd] at d
    rw [bx_inl, r0, bo_some, n_lvl hs hd, bo_some, gO3 hs hd fl.1 (by omega), d, bc_some, fin_b (by split <;> simp)] at e
    exact q_ok ww e q (by split <;> simp)
end QA
