/-! what fits, as the law asks -/
section FT
variable {Θ : mW} {o : Option (Int → Int)} {N f q q2 v a b n : Nat} {c c2 k : Int} {l l2 : List Int} {h h0 h1 h2 : mH} {S S2 : Nat → Int → Int} {V G L : Int → Int} {P : Nat → Prop} {y z y2 z2 : Nat}
theorem WV.no (w : WV Θ f o c v h V) : WV Θ f none c v h V := by
  obtain ⟨S, e, so, wd⟩ := w
  exact ⟨S, e, trivial, wd⟩
theorem f_kc {x : Nat} (hx : f + 146 ≤ x ∧ x < f + 151) : KC f v x := Or.inl ⟨by omega, by omega⟩
theorem b_fit1 (hN : 2000 ≤ N) (w : WV Θ f o c v h V) : ∃ u h2, P_F_mostFitting Θ N h f = some (J u, h2) ∧ isC (wlist V (mny V)) (gps V) u ∧ WV Θ f o c v h2 V ∧ Nx Θ h h2 (KC f v) 0 0 := by
  obtain ⟨S, rfl, so, wd⟩ := id w
  obtain ⟨u, h2, a1, a2, a3, a4, a5⟩ := x_fit1 hN wd.k wd.g
  exact ⟨u, h2, a1, a2, w.fit rfl so wd a3 a4 a5, a5.wid (fun _ _ p => f_kc p) (by omega) (by omega)⟩
theorem b_fit2 (hN : 2000 ≤ N) (w : WV Θ f o c v h V) : ∃ u h2, P_F_mostFittingByTable Θ N h f = some (J u, h2) ∧ isC (wlist V (mny V)) (gps V) u ∧ WV Θ f o c v h2 V ∧ Nx Θ h h2 (KC f v) 0 0 := by
  obtain ⟨S, rfl, so, wd⟩ := id w
  obtain ⟨u, h2, a1, a2, a3, a4, a5⟩ := x_fit2 hN wd.k wd.g
  exact ⟨u, h2, a1, a2, w.fit rfl so wd a3 a4 a5, a5.wid (fun _ _ p => f_kc p) (by omega) (by omega)⟩
theorem b_fit3 (hN : 2000 ≤ N) (w : WV Θ f o c v h V) : ∃ u h2, P_F_mostFittingMetres Θ N h f = some (J u, h2) ∧ isM (wlist V (mny V)) (gps V) u ∧ WV Θ f o c v h2 V ∧ Nx Θ h h2 (KC f v) 0 0 := by
  obtain ⟨S, rfl, so, wd⟩ := id w
  obtain ⟨u, h2, a1, a2, a3, a4, a5⟩ := x_fit3 hN wd.k wd.g
  exact ⟨u, h2, a1, a2, w.fit rfl so wd a3 a4 a5, a5.wid (fun _ _ p => f_kc p) (by omega) (by omega)⟩
theorem lns_L (hN : 2000 ≤ N) (c0 : 0 ≤ c) (c1 : c ≤ 150) (hq : ¬ KC f v q) {f1 : Nat} {f2 : Int32} (hn : (n : Int) = V 4) {K : mH → Option ((Int32 ⊕ Nat) × mH)} : ∀ (r k w : Nat) (h : mH) (G : Int → Int), k + r = n → r < w → WV Θ f none c v h V → AI Θ q n G h → (∀ i : Int, 0 ≤ i → i < k → G i = lnw V i) → ∃ h2 G2, P_W_areFitsRight_103 Θ N K f f1 f2 q w h (J k) = K h2 ∧ WV Θ f none c v h2 V ∧ AI Θ q n G2 h2 ∧ (∀ i : Int, 0 ≤ i → i < n → G2 i = lnw V i) ∧ Nx Θ h h2 (fun x => KC f v x ∨ x = q) 0 0 := by
  intro r
  induction r with
  | zero =>
    intro k w h G hk hw wv ai g
    have h4 := wv.i.h4
    obtain ⟨w, rfl⟩ : ∃ n', w = n' + 1 := ⟨w - 1, by omega⟩
    rw [E_W_areFitsRight_103, B_W_areFitsRight_103, ai.len, bo_some, if_pos (by rw [J_le] <;> omega)]
    exact ⟨h, G, rfl, wv, ai, fun i i0 i1 => g i i0 (by omega), Nx.refl⟩
  | succ r ih =>
    intro k w h G hk hw wv ai g
    have I := wv.i
    have h4 := I.h4
    obtain ⟨w, rfl⟩ : ∃ n', w = n' + 1 := ⟨w - 1, by omega⟩
    have e1 : ((k + 1 : Nat) : Int) = (k : Int) + 1 := by omega
    have ir := id_rng I c0 (by omega) (k := k) (by omega) (by omega)
    obtain ⟨-, -, -, fi, -⟩ := q_f (N := N) hN c0 (by omega) wv (k := k) (by omega) (by omega)
    have key : ∃ h3, (∀ F : mH → Int32 → Option ((Int32 ⊕ Nat) × mH), jn F (fun j34 => (if J (if fd V k 4 ≠ -1 then 1 else 0) = 0 then (gO Θ h 0 f (bx (P_F_shipAt Θ N h f (J k)) (fun v39 h38 => (bx (P_W_lengthOfWaiting Θ N h38 f v39) (fun v41 h40 => (j34 h40 v41)) (fun n9 h9 => xp n9 h9))) (fun n9 h9 => xp n9 h9))) else (j34 h (J 0)))) = F h3 (J (lnw V k))) ∧ WV Θ f none c v h3 V ∧ Nx Θ h h3 (KC f v) 0 0 := by
      by_cases z : fd V k 4 = -1
      · obtain ⟨h3, x1, x2, x3⟩ := w_len (N := N) hN c0 c1 wv (u := k) (by omega) (by omega) z
        refine ⟨h3, fun F => ?_, x2, x3⟩
        rw [jn_eq, if_neg (show ¬ fd V k 4 ≠ -1 by omega), if_pos (show J 0 = (0 : Int32) from rfl), wv.O, g_at wv (by omega) (by omega), bx_inl, x1, bx_inl]
      · refine ⟨h, fun F => ?_, wv, Nx.refl⟩
        rw [jn_eq, if_pos z, if_neg (show ¬ J 1 = (0 : Int32) by decide)]
        unfold lnw
        rw [if_neg (fun q => z q.1)]
    obtain ⟨h3, k1, k2, k3⟩ := key
    have ai3 := ai.nx k3 hq
    obtain ⟨h5, a1, a2, a3⟩ := ai3.w (by omega) (x := k) (v := lnw V k) (by omega) (by omega)
    have w5 := k2.out a3 (fun x e => by rw [e]; exact hq)
    obtain ⟨h6, G6, u1, u2, u3, u4, u5⟩ := ih (k + 1) w h5 _ (by omega) (by omega) w5 a2 (fun i i0 i1 => by
      by_cases z : i = k
      · rw [z, up1_eq]
      · rw [up1_nj z]
        exact g i i0 (by omega))
    refine ⟨h6, G6, ?_, u2, u3, u4, (k3.or1.trans a3.or2).trans u5⟩
    rw [E_W_areFitsRight_103, B_W_areFitsRight_103, ai.len, bo_some, if_neg (by rw [J_le] <;> omega), wv.O, g_at wv (by omega) (by omega), bx_inl, wv.O, fi, bx_inl, k1, a1, bo_some, J_add, ← e1]
    exact u1
/-- the law's packing, said at the arrays -/
theorem most_go (hN : 2000 ≤ N) {m : Nat} {b : Int} (hb01 : b = 0 ∨ b = 1) (I : In c V) (ag : AI Θ q 61 G h) (al : AI Θ q2 n L h) (hq : q2 ≠ q) (hn : (n : Int) = V 4) (hl : ∀ i : Int, 0 ≤ i → i < n → L i = lnw V i) (s : SCN V 60 m G) {a0 : Nat} : ∃ u, P_W_most Θ N 9 h a0 q2 (J 0) q (J m) (J b) = some (J u, h) ∧ isB b ((wlist V (mny V)).filter (fun w => decide (w ≤ mxg (gps V)))) (gps V) u := by
  have h4 := I.h4
  have mn : mny V = n := by unfold mny; omega
  have s6 := scn_60 s
  have s1 := s.2.1
  rw [Int.toNat_natCast] at s6
  have lr : ∀ k : Int, 0 ≤ k → k < n → 0 ≤ L k ∧ L k ≤ 60 := fun k k0 k1 => by
    have si := I.sh k k0 (by omega)
    unfold shOK at si
    rw [hl k k0 k1]
    unfold lnw
    split <;> omega
  obtain ⟨u, a1, a2⟩ := w_most (Θ := Θ) (N := N) (h := h) (m := m) (a0 := a0) hN hb01 ag.1 al hq (by omega) (by omega) lr 9 0 (fun _ => G) (fun k k0 k1 => by
    have mem : G k ∈ gps V := by
      rw [← s6]
      exact (wl_mem m 0).mpr ⟨k, k0, by omega, rfl⟩
    have := gps_rng (G k) mem
    omega) (by omega) (by omega)
  have e : HI Θ 61 q (fun _ => G) h = h := ag.2
  rw [e] at a1
  refine ⟨u, a1, ?_⟩
  rw [Nat.sub_zero] at a2
  rw [← wz_wlist I (mny V) (by rw [mn]; omega) (L := L) (fun k k0 k1 => hl k k0 (by rw [mn] at k1; exact k1)), mn, ← s6]
  exact a2
theorem w_fits (hN : 2000 ≤ N) (c0 : 0 ≤ c) (c1 : c ≤ 150) (wv : WV Θ f o c v h V) : ∃ h2, P_W_areFitsRight Θ N h f = some (.inl (J 1), h2) ∧ WV Θ f none c v h2 V ∧ FR Θ f v v h h2 130 800 := by
  have I := wv.i
  have h4 := I.h4
  obtain ⟨n, hn⟩ : ∃ n : Nat, (n : Int) = V 4 := ⟨(V 4).toNat, by omega⟩
  obtain ⟨m1, m2, m3⟩ := ai_new (Θ := Θ) (h := h) (n := 61) (by omega)
  have qk : ¬ KC f v (mwB Θ + h.length) := fun k => by have := wv.hi _ k; omega
  have w1 := (wv.out m3 (fun _ x => x.elim)).no
  obtain ⟨h2, m9, G2, a1, a2, a3, a4, a5⟩ := fits9_L (N := N) hN c0 (by omega) qk (K := fun h23 u24 => (gO Θ h23 0 f (bc (P_F_shipCount Θ N h23 f) (fun v26 h25 => (ala Θ h25 4 v26 (fun n => .inl (0, n, .inl (fun _ => 0))) (fun q27 h28 => (P_W_areFitsRight_103 Θ N (fun h42 => (gO Θ h42 0 f (bc (P_F_mostFitting Θ N h42 f) (fun v44 h43 => (bc (P_W_most Θ N 9 h43 f q27 (J 0) (mwB Θ + h.length) u24 (J 0)) (fun v46 h45 => (if v44 = v46 then (gO Θ h45 0 f (bc (P_F_mostFittingByTable Θ N h45 f) (fun v48 h47 => (gO Θ h47 0 f (bc (P_F_mostFitting Θ N h47 f) (fun v50 h49 => (if v48 = v50 then (gO Θ h49 0 f (bc (P_F_mostFittingMetres Θ N h49 f) (fun v52 h51 => (bc (P_W_most Θ N 9 h51 f q27 (J 0) (mwB Θ + h.length) u24 (J 1)) (fun v54 h53 => (if v52 = v54 then (some (.inl (J 1), h53)) else (some (.inl (J 0), h53)))))))) else (some (.inl (J 0), h49))))))))) else (some (.inl (J 0), h45))))))))) f (mwB Θ + h.length) u24 q27 N h28 (J 0)))))))) 60 0 N 0 (fun _ => 0) _ (by omega) (by omega) w1 m2 (scn_0 (fun _ => rfl))
  obtain ⟨m, rfl⟩ : ∃ m : Nat, m9 = m := ⟨m9.toNat, by have := a4.1; omega⟩
  obtain ⟨b1, b2, b3⟩ := ai_new (Θ := Θ) (h := h2) (n := n) (by omega)
  have qk2 : ¬ KC f v (mwB Θ + h2.length) := fun k => by have := a2.hi _ k; omega
  have ql : mwB Θ + h.length < mwB Θ + h2.length := by
    have := a3.1.2
    simp at this
    omega
  have w3 := a2.out b3 (fun _ x => x.elim)
  have a33 := a3.nx b3 id
  obtain ⟨h4', G4, d1, d2, d3, d4, d5⟩ := lns_L (N := N) hN c0 c1 qk2 (f1 := mwB Θ + h.length) (f2 := J m) hn (K := fun h42 => (gO Θ h42 0 f (bc (P_F_mostFitting Θ N h42 f) (fun v44 h43 => (bc (P_W_most Θ N 9 h43 f (mwB Θ + h2.length) (J 0) (mwB Θ + h.length) (J m) (J 0)) (fun v46 h45 => (if v44 = v46 then (gO Θ h45 0 f (bc (P_F_mostFittingByTable Θ N h45 f) (fun v48 h47 => (gO Θ h47 0 f (bc (P_F_mostFitting Θ N h47 f) (fun v50 h49 => (if v48 = v50 then (gO Θ h49 0 f (bc (P_F_mostFittingMetres Θ N h49 f) (fun v52 h51 => (bc (P_W_most Θ N 9 h51 f (mwB Θ + h2.length) (J 0) (mwB Θ + h.length) (J m) (J 1)) (fun v54 h53 => (if v52 = v54 then (some (.inl (J 1), h53)) else (some (.inl (J 0), h53)))))))) else (some (.inl (J 0), h49))))))))) else (some (.inl (J 0), h45))))))))) n 0 N _ (fun _ => 0) (by omega) (by omega) w3 b2 (fun i i0 i1 => by omega)
  have ag4 := a33.nx d5 (fun x => by rcases x with x | x <;> first | exact qk x | omega)
  obtain ⟨u5, h5, e1, e2, e3, e4⟩ := b_fit1 hN d2
  have ag5 := ag4.nx e4 qk
  have al5 := d3.nx e4 qk2
  obtain ⟨u6, f1, f2⟩ := most_go (N := N) (b := 0) (a0 := f) hN (Or.inl rfl) I ag5 al5 (by omega) hn d4 a4
  have eq1 : u5 = u6 := isC_eq (isC_B (wlist_0 I) gpm_rng e2) (isB_0 f2)
  obtain ⟨u7, h7, g1, g2, g3, g4⟩ := b_fit2 hN e3
  obtain ⟨u8, h8, i1, i2, i3, i4⟩ := b_fit1 hN g3
  have eq2 : u7 = u8 := isC_eq g2 i2
  obtain ⟨u9, h9, j1, j2, j3, j4⟩ := b_fit3 hN i3
  have x9 := (g4.trans i4).trans j4
  have ag9 := ag5.nx x9 qk
  have al9 := al5.nx x9 qk2
  obtain ⟨u10, k1, k2⟩ := most_go (N := N) (b := 1) (a0 := f) hN (Or.inr rfl) I ag9 al9 (by omega) hn d4 a4
  have eq3 : u9 = u10 := isM_eq (isM_B (wlist_0 I) gpm_rng j2) (isB_1 k2)
  refine ⟨h9, ?_, j3, ?_⟩
  · unfold P_W_areFitsRight
    refine Eq.trans (m1 _) ?_
    refine Eq.trans a1 ?_
    rw [a2.O, g_count a2, bc_some, ← hn, b1]
    refine Eq.trans d1 ?_
    rw [d2.O, e1, bc_some, f1, bc_some, if_pos (by rw [eq1]), e3.O, g1, bc_some, g3.O, i1, bc_some, if_pos (by rw [eq2]), i3.O, j1, bc_some, k1, bc_some, if_pos (by rw [eq3])]
  · have y1 : Nx Θ h h2 (KC f v) _ _ := Nx.new (P := KC f v) (m3.wid (fun _ _ p => p.elim) (Nat.le_refl _) (Nat.le_refl _)) a5 (fun x e => by omega)
    have y2 : Nx Θ h h4' (KC f v) _ _ := Nx.new (P := KC f v) (y1.trans (b3.wid (fun _ _ p => p.elim) (Nat.le_refl _) (Nat.le_refl _))) d5 (fun x e => by omega)
    exact (show FR Θ f v v h h9 _ _ from ⟨(y2.trans e4).trans x9, Or.inl rfl⟩).up (by omega) (by omega)
end FT
