/-! the questions of the face -/
section QA
variable {Θ : mW} {N f b : Nat} {c k : Int} {S S' S2 : Nat → Int → Int} {h h2 : mH} {tb : Int → Nat} {vp : Int → Prop} {pf : Option ((Int32 ⊕ Nat) × mH)} {pn : Option (Int32 × mH)} {pr : mH → Option (Int32 × mH)} {D : Nat → Int → Int} {V : Int → Int}
theorem n_cnt (hs : HB Θ shD b D h) (hd : DV D V) : rI Θ h 2 (b + 1) 1 = some (J (V 4)) := by
  rw [← hd.sc.2.2.2.2.1]
  exact HB.xI hs (i := 1) rfl rfl
theorem n_lvl (hs : HB Θ shD b D h) (hd : DV D V) : rI Θ h 1 b 2 = some (J (V 1)) := by
  rw [← hd.sc.2.1]
  exact HB.xI hs (i := 0) rfl rfl
theorem n_gat (hs : HB Θ shD b D h) (hd : DV D V) : rI Θ h 1 b 3 = some (J (V 2)) := by
  rw [← hd.sc.2.2.1]
  exact HB.xI hs (i := 0) rfl rfl
theorem n_hou (hs : HB Θ shD b D h) (hd : DV D V) : rI Θ h 1 b 5 = some (J (V 0)) := by
  rw [← hd.sc.1]
  exact HB.xI hs (i := 0) rfl rfl
theorem n_pai (hs : HB Θ shD b D h) (hd : DV D V) : rI Θ h 1 b 7 = some (J (V 7)) := by
  rw [← hd.sc.2.2.2.2.2.2.2]
  exact HB.xI hs (i := 0) rfl rfl
theorem n_s (hs : HB Θ shD b D h) (hd : DV D V) (h4 : V 4 ≤ 8) {q i : Int} {w : Nat} (q0 : 0 ≤ q) (q1 : q < V 4) (i0 : 0 ≤ i) (i1 : i ≤ 8) (hw : sf i = w) (hk : ([none, none, none, none, none, none, none, none, none] : List (Option (Option Nat)))[w]? = some none) : rI Θ h 3 (b + 3 + ro D q) w = some (J (fd V q i)) := by
  rw [← hd.2.2.1 q q0 q1 i i0 i1, hw, Nat.add_assoc]
  exact HB.xI hs (shD_s (hd.rlt q0 (by omega))) hk
theorem n_0 (hs : HB Θ shD b D h) (hd : DV D V) (h4 : V 4 ≤ 8) {q : Int} (q0 : 0 ≤ q) (q1 : q < V 4) : rI Θ h 3 (b + 3 + ro D q) 0 = some (J (fd V q 0)) := n_s (w := 0) hs hd h4 q0 q1 (by decide) (by decide) rfl rfl
theorem n_3 (hs : HB Θ shD b D h) (hd : DV D V) (h4 : V 4 ≤ 8) {q : Int} (q0 : 0 ≤ q) (q1 : q < V 4) : rI Θ h 3 (b + 3 + ro D q) 3 = some (J (fd V q 3)) := n_s (w := 3) hs hd h4 q0 q1 (by decide) (by decide) rfl rfl
theorem n_4 (hs : HB Θ shD b D h) (hd : DV D V) (h4 : V 4 ≤ 8) {q : Int} (q0 : 0 ≤ q) (q1 : q < V 4) : rI Θ h 3 (b + 3 + ro D q) 4 = some (J (fd V q 6)) := n_s (w := 4) hs hd h4 q0 q1 (by decide) (by decide) rfl rfl
theorem n_5 (hs : HB Θ shD b D h) (hd : DV D V) (h4 : V 4 ≤ 8) {q : Int} (q0 : 0 ≤ q) (q1 : q < V 4) : rI Θ h 3 (b + 3 + ro D q) 5 = some (J (fd V q 7)) := n_s (w := 5) hs hd h4 q0 q1 (by decide) (by decide) rfl rfl
theorem n_6 (hs : HB Θ shD b D h) (hd : DV D V) (h4 : V 4 ≤ 8) {q : Int} (q0 : 0 ≤ q) (q1 : q < V 4) : rI Θ h 3 (b + 3 + ro D q) 6 = some (J (fd V q 8)) := n_s (w := 6) hs hd h4 q0 q1 (by decide) (by decide) rfl rfl
theorem n_7 (hs : HB Θ shD b D h) (hd : DV D V) (h4 : V 4 ≤ 8) {q : Int} (q0 : 0 ≤ q) (q1 : q < V 4) : rI Θ h 3 (b + 3 + ro D q) 7 = some (J (fd V q 4)) := n_s (w := 7) hs hd h4 q0 q1 (by decide) (by decide) rfl rfl
theorem gO3 (hs : HB Θ shD b D h) (hd : DV D V) {q : Int} (q0 : 0 ≤ q) (q1 : q < 8) {ρ : Type} {p : Option ρ} : gO Θ h 3 (b + 3 + ro D q) p = p := by
  rw [Nat.add_assoc]
  exact HB.xO hs (shD_s (hd.rlt q0 q1))
/-- class methods on the heap itself -/
theorem h_known (hN : 2000 ≤ N) (hs : HB Θ shD b D h) (hd : DV D V) (I : In c V) {id : Int} (i : int' id) : P_L_known Θ N h (b + 1) (J id) = if fnd V id (mny V) = -1 then some (.inr 10, h ++ [oB 10 []]) else some (.inl (b + 3 + ro D (fnd V id (mny V))), h) := by
  have e := c_known (N := N) hN hs.1 hd I i.1 i.2
  rwa [hs.hd, ex_hd hs] at e
theorem h_taken (hN : 2000 ≤ N) (hs : HB Θ shD b D h) (hd : DV D V) (I : In c V) : P_L_takenMetres Θ N h (b + 1) = some (J (tkn V (mny V)), h) := by
  have e := c_takenMetres (N := N) hN hs.1 hd I
  rwa [hs.hd] at e
theorem h_billSum (hN : 2000 ≤ N) (hs : HB Θ shD b D h) (hd : DV D V) (I : In c V) : P_L_billSum Θ N h (b + 1) = some (J (smm V 8 (mny V)), h) := by
  have e := c_billSum (N := N) hN hs.1 hd I
  rwa [hs.hd] at e
theorem h_accounts (hs : HB Θ shD b D h) (hd : DV D V) : P_D_billsByAccount Θ N h b = some (J (V 6 - V 7), h) := by
  have e := c_accounts (N := N) hs.1 hd
  rwa [hs.hd] at e
end QA
