/-! the law's gaps, the law's lengths -/
/-- the world, by what the dock says -/
def SNP (o : Option (Int → Int)) (S : Nat → Int → Int) : Prop := match o with
  | none => True
  | some U => S 0 4 = 1 ∧ ∀ j : Int, 0 ≤ j → j < 140 → S 3 j = U j
/-- (and of what was saved) -/
def WV (Θ : mW) (f : Nat) (o : Option (Int → Int)) (c : Int) (v : Nat) (h : mH) (V : Int → Int) : Prop := ∃ S, S 1 = V ∧ SNP o S ∧ WD Θ f c v h S
theorem SNP.sm {o : Option (Int → Int)} {S S2 : Nat → Int → Int} (s : SNP o S) (e3 : S2 3 = S 3) (e4 : S2 0 4 = S 0 4) : SNP o S2 := by
  cases o with
  | none => trivial
  | some U => exact ⟨e4.trans s.1, fun j j0 j1 => by rw [e3]; exact s.2 j j0 j1⟩
section FI
variable {Θ : mW} {o : Option (Int → Int)} {N f v q : Nat} {c c2 : Int} {S : Nat → Int → Int} {h h1 h2 h3 : mH} {V V2 G : Int → Int} {P Q R : Nat → Prop} {y z y2 z2 : Nat}
theorem WV.i (w : WV Θ f o c v h V) : In c V := by
  obtain ⟨S, rfl, so, w⟩ := w
  exact w.i
theorem WV.O (w : WV Θ f o c v h V) {ρ : Type} {p : Option ρ} : gO Θ h 0 f p = p := by
  obtain ⟨S, rfl, so, w⟩ := w
  exact w.O
theorem WV.out (w : WV Θ f o c v h V) (x : Nx Θ h h2 P y z) (hp : ∀ x, P x → ¬ KC f v x) : WV Θ f o c v h2 V := by
  obtain ⟨S, rfl, so, w⟩ := w
  exact ⟨S, rfl, so, w.out x hp⟩
theorem WV.ex (w : WV Θ f o c v h V) {n : Nat} : WV Θ f o c v (h ++ [oB n []]) V := by
  obtain ⟨S, rfl, so, w⟩ := w
  exact ⟨S, rfl, so, w.ex⟩
theorem WV.mono (w : WV Θ f o c v h V) (hc : c ≤ c2) : WV Θ f o c2 v h V := by
  obtain ⟨S, rfl, so, w⟩ := w
  exact ⟨S, rfl, so, w.mono hc⟩
/-- the array now, where it counts, is another -/
theorem KX.cg {bO : (Int → Int) → Prop} (w : KX Θ f c h S bO) (e : ∀ j : Int, 0 ≤ j → j < 140 → S 1 j = V j) (ok : ∀ j, -100000000 ≤ V j ∧ V j ≤ 100000000) : KX Θ f c h (ur S V) bO := by
  obtain ⟨a, b, r, x, F, E, Q, k1, k2, k3, k4, k5⟩ := w
  obtain ⟨e1, e2, e3, e4, e5, e6⟩ := k5
  have u1 : ur S V 1 = V := if_pos rfl
  have u0 : ∀ i : Nat, i ≠ 1 → ur S V i = S i := fun i hi => if_neg hi
  refine ⟨a, b, r, x, F, E, Q, k1, ?_, k3, ?_, e1, ?_, e3, ?_, ?_, ?_⟩
  · unfold KF at k2 ⊢
    rw [u0 0 (by decide)]
    exact k2
  · unfold KQ at k4 ⊢
    rw [u0 0 (by decide)]
    exact k4
  · rw [u1]
    exact ⟨e2.1.cong e2.2.h4.2 e, e2.2.cong ok e⟩
  · rw [u0 0 (by decide), u0 4 (by decide)]
    exact e4
  · rw [u0 0 (by decide)]
    exact e5
  · rw [u0 0 (by decide), u0 3 (by decide)]
    exact e6
theorem Nx.or1 (a : Nx Θ h h2 P y z) : Nx Θ h h2 (fun x => P x ∨ Q x) y z := a.wid (fun _ _ p => Or.inl p) (Nat.le_refl _) (Nat.le_refl _)
theorem Nx.or2 (a : Nx Θ h h2 Q y z) : Nx Θ h h2 (fun x => P x ∨ Q x) y z := a.wid (fun _ _ p => Or.inr p) (Nat.le_refl _) (Nat.le_refl _)
/-- what changes in cells that weren't there doesn't count -/
theorem Nx.new (a : Nx Θ h h1 P y z) (b : Nx Θ h1 h2 (fun x => P x ∨ Q x) y2 z2) (hq : ∀ x, Q x → mwB Θ + h.length ≤ x) : Nx Θ h h2 P (y + y2) (z + z2) := by
  obtain ⟨a1, a2, a3⟩ := a
  obtain ⟨b1, b2, b3⟩ := b
  refine ⟨by omega, by omega, fun x hx hp => ?_⟩
  rw [b3 x (by omega) (fun q => ?_), a3 x hx hp]
  rcases q with q | q
  · exact hp q
  · have := hq x q
    omega
theorem int_r {x : Int} (a : -2147483648 ≤ x := by omega) (b : x < 2147483648 := by omega) : int' x := ⟨a, b⟩
theorem id_rng (I : In c V) (c0 : 0 ≤ c) (c1 : c ≤ 2000) {k : Int} (k0 : 0 ≤ k) (k1 : k < V 4) : 0 ≤ fd V k 0 ∧ fd V k 0 < 100000 := by
  have s := I.sh k k0 k1
  have h5 := I.h5
  unfold shOK at s
  omega
theorem fits9_t (a : AI Θ q 61 G h) {m p b10 b7 : Int} (m0 : 0 ≤ m) (m1 : m + b10 ≤ 61) (hb : b10 = 0 ∨ b10 = 1) (h7 : b7 = 0 ∨ b7 = 1) : ∃ h2, (∀ rc : mH → Int32 → Int32 → Option ((Int32 ⊕ Nat) × mH), (bc (P_W_told Θ N h (J b10)) (fun v12 h11 => (bo (aR Θ h11 0 q (mxI (J 0) ((J m + v12) - (J 1)))) (fun v13 => (bc (P_W_told Θ N h11 (J b7)) (fun v15 h14 => (bo (aW Θ h14 0 q (mxI (J 0) ((J m + v12) - (J 1))) (v13 + v15)) (fun h16 => (rc h16 (J m + v12) (J p + (J 1))))))))))) = rc h2 (J (m + b10)) (J (p + 1))) ∧ AI Θ q 61 (up1 G (max 0 (m + b10 - 1)) (G (max 0 (m + b10 - 1)) + b7)) h2 ∧ Nx Θ h h2 (fun x => x = q) 0 0 := by
  obtain ⟨h2, e1, e2, e3⟩ := a.w (by omega) (x := max 0 (m + b10 - 1)) (v := G (max 0 (m + b10 - 1)) + b7) (by omega) (by omega)
  refine ⟨h2, fun rc => ?_, e2, e3⟩
  rw [w_told hb, bc_some, J_add, J_sub, J_mx (by omega) (by omega) (by omega) (by omega), a.r (by omega) (by omega) (by omega), bo_some, w_told h7, bc_some, J_add, e1, bo_some, J_add]
theorem fits9_L (hN : 2000 ≤ N) (c0 : 0 ≤ c) (c1 : c ≤ 2000) (hq : ¬ KC f v q) {K : mH → Int32 → Option ((Int32 ⊕ Nat) × mH)} : ∀ (r p w : Nat) (m : Int) (G : Int → Int) (h : mH), p + r = 60 → r < w → WV Θ f o c v h V → AI Θ q 61 G h → SCN V p m G → ∃ (h2 : mH) (m2 : Int) (G2 : Int → Int), P_W_areFitsRight_9 Θ N K f q w h (J m) (J p) = K h2 (J m2) ∧ WV Θ f o c v h2 V ∧ AI Θ q 61 G2 h2 ∧ SCN V 60 m2 G2 ∧ Nx Θ h h2 (fun x => KC f v x ∨ x = q) (2 * r) (12 * r) := by
  intro r
  induction r with
  | zero =>
    intro p w m G h hp hw wv a s
    obtain ⟨w, rfl⟩ : ∃ n', w = n' + 1 := ⟨w - 1, by omega⟩
    have : p = 60 := by omega
    subst this
    rw [E_W_areFitsRight_9, B_W_areFitsRight_9, if_pos (by rw [J_le] <;> omega)]
    exact ⟨h, m, G, rfl, wv, a, s, Nx.refl⟩
  | succ r ih =>
    intro p w m G h hp hw wv a s
    obtain ⟨w, rfl⟩ : ∃ n', w = n' + 1 := ⟨w - 1, by omega⟩
    have e1 : ((p + 1 : Nat) : Int) = (p : Int) + 1 := by omega
    have I := wv.i
    obtain ⟨S, rfl, so, wd⟩ := id wv
    have hm := s.1
    have hm2 := s.2.1
    have gp := (gsc_rng (V := S 1) p).2.1
    have g0 := (gsc_rng (V := S 1) p).1.1
    have nK : ∀ x, x = q → ¬ KC f v x := fun x e => by rw [e]; exact hq
    rw [E_W_areFitsRight_9, B_W_areFitsRight_9, if_neg (by rw [J_le] <;> omega), a_pos wd hN (int_r), if_pos (by omega)]
    by_cases fr : at' (S 1) p = -1
    · rw [if_pos fr, bc_some, jn_eq, if_pos rfl]
      dsimp only
      rw [jn_eq]
      dsimp only
      rw [jn_eq, if_neg (show ¬ J 1 = (0 : Int32) by decide), jn_eq]
      have x0 : Nx Θ h (h ++ [oB 10 []]) (fun x => KC f v x ∨ x = q) 1 6 := Nx.ex
      have w1 : WV Θ f o c v (h ++ [oB 10 []]) (S 1) := wv.ex
      have a1 : AI Θ q 61 G (h ++ [oB 10 []]) := a.nx (P := fun _ => False) Nx.ex id
      by_cases pv : 0 < (gsc (S 1) p).1
      · -- goes on
        obtain ⟨m1, s2⟩ := scn_on s fr pv
        have fp := gp pv
        have p0 : p ≠ 0 := fun z => by subst z; simp [gsc] at pv
        obtain ⟨S9, e9, -, wd1⟩ := w1
        rw [if_neg (show ¬ J (p : Int) = (0 : Int32) by rw [J_eq0] <;> omega), J_sub, a_pos wd1 hN (int_r), if_pos (by omega), e9, if_pos fp, bc_some, if_pos rfl]
        have w2 : WV Θ f o c v (h ++ [oB 10 []] ++ [oB 10 []]) (S 1) := wv.ex.ex
        have a2 : AI Θ q 61 G (h ++ [oB 10 []] ++ [oB 10 []]) := a1.nx (P := fun _ => False) Nx.ex id
        obtain ⟨h3, t1, t2, t3⟩ := fits9_t (N := N) a2 (m := m) (p := p) (b10 := 0) (b7 := 1) hm (by omega) (Or.inl rfl) (Or.inr rfl)
        dsimp only
        rw [t1]
        have w3 := w2.out t3 nK
        rw [Int.max_eq_right (by omega), Int.add_zero] at t2
        obtain ⟨h4, m2, G2, b1, b2, b3, b4, b5⟩ := ih (p + 1) w m _ h3 (by omega) (by omega) w3 t2 s2
        rw [← e1, show m + 0 = m by omega]
        refine ⟨h4, m2, G2, b1, b2, b3, b4, ?_⟩
        exact (((x0.trans (Nx.ex (n := 10))).trans t3.or2).trans b5).up (by omega) (by omega)
      · -- a new gap
        have s2 := scn_new s fr pv
        obtain ⟨h3, t1, t2, t3⟩ := fits9_t (N := N) a1 (m := m) (p := p) (b10 := 1) (b7 := 1) hm (by omega) (Or.inr rfl) (Or.inr rfl)
        have w3 := w1.out t3 nK
        rw [Int.max_eq_right (by omega), show m + 1 - 1 = m by omega] at t2
        have rest : ∃ (h2 : mH) (m2 : Int) (G2 : Int → Int), P_W_areFitsRight_9 Θ N K f q w h3 (J (m + 1)) (J ((p : Int) + 1)) = K h2 (J m2) ∧ WV Θ f o c v h2 (S 1) ∧ AI Θ q 61 G2 h2 ∧ SCN (S 1) 60 m2 G2 ∧ Nx Θ h h2 (fun x => KC f v x ∨ x = q) (2 * (r + 1)) (12 * (r + 1)) := by
          obtain ⟨h4, m2, G2, b1, b2, b3, b4, b5⟩ := ih (p + 1) w (m + 1) _ h3 (by omega) (by omega) w3 t2 s2
          rw [← e1]
          exact ⟨h4, m2, G2, b1, b2, b3, b4, ((x0.trans t3.or2).trans b5).up (by omega) (by omega)⟩
        by_cases p0 : p = 0
        · subst p0
          rw [if_pos (show J ((0 : Nat) : Int) = (0 : Int32) from rfl)]
          dsimp only
          rw [t1]
          exact rest
        · have nf : ¬ at' (S 1) ((p : Int) - 1) = -1 := fun z => by
            obtain ⟨p', rfl⟩ : ∃ p', p = p' + 1 := ⟨p - 1, by omega⟩
            exact pv (gsc_prev.mpr (by rwa [show ((p' + 1 : Nat) : Int) - 1 = p' by omega] at z))
          obtain ⟨S9, e9, -, wd1⟩ := w1
          have al := atk_le I (p := (p : Int) - 1)
          have ir := id_rng I c0 c1 (k := at' (S 1) ((p : Int) - 1)) (by omega) (by omega)
          rw [if_neg (show ¬ J (p : Int) = (0 : Int32) by rw [J_eq0] <;> omega), J_sub, a_pos wd1 hN (int_r), if_pos (by omega), e9, if_neg nf, bc_some, if_neg (by rw [J_eq] <;> omega)]
          dsimp only
          rw [t1]
          exact rest
    · have al := atk_le I (p := (p : Int))
      have ir := id_rng I c0 c1 (k := at' (S 1) (p : Int)) (by omega) (by omega)
      rw [if_neg fr, bc_some, jn_eq, if_neg (by rw [J_eq] <;> omega)]
      dsimp only
      rw [jn_eq]
      dsimp only
      rw [jn_eq, if_pos (show J 0 = (0 : Int32) from rfl)]
      have s2 := scn_no s fr
      obtain ⟨h3, t1, t2, t3⟩ := fits9_t (N := N) a (m := m) (p := p) (b10 := 0) (b7 := 0) hm (by omega) (Or.inl rfl) (Or.inl rfl)
      dsimp only
      rw [t1]
      have w3 := wv.out t3 nK
      have eG : up1 G (max 0 (m + 0 - 1)) (G (max 0 (m + 0 - 1)) + 0) = G := by
        funext k
        unfold up1
        split
        · rename_i z; rw [z]; omega
        · rfl
      rw [eG] at t2
      obtain ⟨h4, m2, G2, b1, b2, b3, b4, b5⟩ := ih (p + 1) w m G h3 (by omega) (by omega) w3 t2 s2
      rw [← e1, show m + 0 = m by omega]
      exact ⟨h4, m2, G2, b1, b2, b3, b4, (t3.or2.trans b5).up (by omega) (by omega)⟩
end FI
