/-! the length of a waiting ship, on -/
theorem at_same {V W : Int → Int} (e4 : W 4 = V 4) (ef : ∀ k : Int, 0 ≤ k → k < V 4 → fd W k 1 = fd V k 1 ∧ fd W k 4 = fd V k 4) {p : Int} : at' W p = -1 ↔ at' V p = -1 := by
  rw [at_none, at_none, e4]
  constructor
  · intro a k k0 k1 c
    refine a k k0 k1 ?_
    obtain ⟨e1, e2⟩ := ef k k0 k1
    unfold cov at c ⊢
    rw [e1, e2]
    exact c
  · intro a k k0 k1 c
    refine a k k0 k1 ?_
    obtain ⟨e1, e2⟩ := ef k k0 k1
    unfold cov at c ⊢
    rw [e1, e2] at c
    exact c
theorem at_rmv {V : Int → Int} {w : Int} (h4 : V 4 ≤ 8) (w0 : 0 ≤ w) (w1 : w < V 4) (hd : fd V w 4 = -1) {p : Int} : at' (rmvV V w) p = -1 ↔ at' V p = -1 := by
  have e4 : rmvV V w 4 = V 4 - 1 := by unfold rmvV; rw [up1_eq]
  have ff : ∀ k i : Int, 0 ≤ k → k ≤ 6 → 0 ≤ i ∧ i ≤ 8 → fd (rmvV V w) k i = if k < w then fd V k i else fd V (k + 1) i := fun k i a b d => rmvV_fd w0 a b d
  rw [at_none, at_none, e4]
  constructor
  · intro a k k0 k1 c
    by_cases z : k = w
    · rw [z] at c
      exact c.1 hd
    · by_cases lt : k < w
      · refine a k k0 (by omega) ?_
        unfold cov at c ⊢
        rw [ff k 4 k0 (by omega) (by omega), ff k 1 k0 (by omega) (by omega), if_pos lt, if_pos lt]
        exact c
      · refine a (k - 1) (by omega) (by omega) ?_
        unfold cov at c ⊢
        rw [ff (k - 1) 4 (by omega) (by omega) (by omega), ff (k - 1) 1 (by omega) (by omega) (by omega), if_neg (by omega), if_neg (by omega), show k - 1 + 1 = k by omega]
        exact c
  · intro a k k0 k1 c
    unfold cov at c
    rw [ff k 4 k0 (by omega) (by omega), ff k 1 k0 (by omega) (by omega)] at c
    by_cases lt : k < w
    · rw [if_pos lt, if_pos lt] at c
      exact a k k0 (by omega) c
    · rw [if_neg lt, if_neg lt] at c
      exact a (k + 1) (by omega) (by omega) c
/-- gaps are the same where the same metres are free -/
theorem gsc_same {V W : Int → Int} : ∀ n : Nat, (∀ p : Nat, p < n → (at' W p = -1 ↔ at' V p = -1)) → gsc W n = gsc V n
  | 0, _ => rfl
  | n + 1, h => by
    have e := h n (by omega)
    rw [gsc, gsc, gsc_same n (fun p hp => h p (by omega))]
    by_cases z : at' V n = -1
    · rw [if_pos z, if_pos (e.mpr z)]
    · rw [if_neg z, if_neg (fun q => z (e.mp q))]
theorem gps_same {V W : Int → Int} (h : ∀ p : Int, at' W p = -1 ↔ at' V p = -1) : gps W = gps V := by
  unfold gps
  rw [gsc_same 60 (fun p _ => h p)]
/-- one ship alone outside -/
theorem wlist_one {W : Int → Int} {u : Int} (hu : ∀ i : Int, 0 ≤ i → i ≠ u → i < W 4 → fd W i 4 ≠ -1) : ∀ n : Nat, (n : Int) ≤ W 4 → wlist W n = if 0 ≤ u ∧ u < n ∧ fd W u 4 = -1 ∧ fd W u 2 + 2 ≤ W 1 then [fd W u 1] else []
  | 0, _ => by
    rw [wlist, if_neg (by omega)]
  | n + 1, h => by
    rw [wlist, wlist_one hu n (by omega)]
    by_cases e : (n : Int) = u
    · rw [if_neg (show ¬ (0 ≤ u ∧ u < (n : Int) ∧ fd W u 4 = -1 ∧ fd W u 2 + 2 ≤ W 1) by omega)]
      by_cases z : fd W n 4 = -1 ∧ fd W n 2 + 2 ≤ W 1
      · rw [if_pos z, if_pos (by rw [← e]; exact ⟨by omega, by omega, z⟩), e]
        rfl
      · rw [if_neg z, if_neg (by rw [← e]; exact fun q => z q.2.2)]
    · rw [if_neg (fun q => hu n (by omega) e (by omega) q.1)]
      by_cases z : 0 ≤ u ∧ u < (n : Int) ∧ fd W u 4 = -1 ∧ fd W u 2 + 2 ≤ W 1
      · rw [if_pos z, if_pos ⟨z.1, by omega, z.2.2⟩]
      · rw [if_neg z, if_neg (fun q => z ⟨q.1, by omega, q.2.2⟩)]
def LWI (V0 : Int → Int) (sid u k : Int) (V : Int → Int) : Prop := ((∀ j : Int, j < 4 → V j = V0 j) ∧ V 6 = V0 6) ∧ k + 1 ≤ V 4 ∧ (∀ i j : Int, 0 ≤ i → i ≤ k → 0 ≤ j → j ≤ 8 → fd V i j = fd V0 i j) ∧ (∀ i : Int, 0 ≤ i → k < i → i < V 4 → fd V i 4 ≠ -1 ∨ fd V i 0 = sid) ∧ (∀ p : Int, at' V p = -1 ↔ at' V0 p = -1) ∧ ∃ i : Int, 0 ≤ i ∧ i < V 4 ∧ fd V i 0 = sid ∧ fd V i 1 = fd V0 u 1 ∧ fd V i 2 = fd V0 u 2 ∧ fd V i 4 = fd V0 u 4
section LN8
variable {Θ : mW} {o : Option (Int → Int)} {N f v q : Nat} {c c2 : Int} {S : Nat → Int → Int} {h h1 h2 h3 : mH} {V V2 W V0 : Int → Int}
theorem p31_out (hN : 2000 ≤ N) (c0 : 0 ≤ c) (c1 : c ≤ 2000) (wv : WV Θ f o c v h V) {sid kk k : Int} {b : Int32} (hs : int' sid) (k0 : 0 ≤ k) (k1 : k < V 4) (he : fd V k 0 = sid ∨ fd V k 4 ≠ -1) {K : mH → Option ((Int32 ⊕ Nat) × mH)} : P_W_lengthOfWaiting_31 Θ N K f (J sid) (J kk) (J (fd V k 0)) N h b = K h := by
  obtain ⟨w, e⟩ : ∃ n', N = n' + 1 := ⟨N - 1, by omega⟩
  have I := wv.i
  have ir := id_rng I c0 c1 k0 k1
  have q : P_W_lengthOfWaiting_31 Θ N K f (J sid) (J kk) (J (fd V k 0)) (w + 1) h b = K h := by
    rw [E_W_lengthOfWaiting_31, B_W_lengthOfWaiting_31]
    by_cases z : fd V k 0 = sid
    · rw [if_pos (by rw [z])]
    · have hd := he.resolve_left z
      rw [if_neg (by rw [J_eq (by omega) (by omega) hs.1 hs.2]; exact z), wv.O, g_isIn hN wv (int_r), fnd_of I k0 k1, if_neg (by omega), bx_inl, if_pos hd, if_neg (show ¬ J 1 = (0 : Int32) by decide)]
  rw [← e] at q
  exact q
theorem len_L (hN : 2000 ≤ N) {sid u : Int} (hs : int' sid) {K : mH → Option ((Int32 ⊕ Nat) × mH)} : ∀ (r w : Nat) (c K0 : Int) (h : mH) (V : Int → Int), r < w → LWI V0 sid u (r - 1) V → 0 ≤ c → 999 * c ≤ V 7 + K0 → V 6 + K0 + 1998 * r ≤ 1980000 → WV Θ f o c v h V → ∃ h2 c2 W, P_W_lengthOfWaiting_12 Θ N K f (J sid) w h (J ((r : Int) - 1)) = K h2 ∧ WV Θ f o c2 v h2 W ∧ LWI V0 sid u (-1) W ∧ 0 ≤ c2 ∧ c2 ≤ 2000 ∧ Nx Θ h h2 (KR f) 0 0 := by
  intro r
  induction r with
  | zero =>
    intro w c K0 h V hw hL c0 hc hK wv
    obtain ⟨w, rfl⟩ : ∃ n', w = n' + 1 := ⟨w - 1, by omega⟩
    have b0 := bills_0 wv.i
    rw [E_W_lengthOfWaiting_12, B_W_lengthOfWaiting_12, if_pos (by rw [J_lt0] <;> omega)]
    exact ⟨h, c, V, rfl, wv, hL, c0, by omega, Nx.refl⟩
  | succ r ih =>
    intro w c K0 h V hw hL c0 hc hK wv
    obtain ⟨w, rfl⟩ : ∃ n', w = n' + 1 := ⟨w - 1, by omega⟩
    have I := wv.i
    have b0 := bills_0 I
    have h4 := I.h4
    rw [show ((r + 1 : Nat) : Int) - 1 = r by omega] at hL ⊢
    obtain ⟨l1, l2, l3, l4, l5, l6⟩ := hL
    have c1 : c ≤ 1990 := by omega
    have ir := id_rng I c0 (by omega) (k := r) (by omega) (by omega)
    have k0 : (0 : Int) ≤ r := by omega
    have k1 : (r : Int) < V 4 := by omega
    have fo := fnd_of I k0 k1
    have er : J (r : Int) + J (-1) = J ((r : Int) - 1) := by rw [J_add]; rfl
    rw [E_W_lengthOfWaiting_12, B_W_lengthOfWaiting_12, if_neg (by rw [J_lt0] <;> omega), wv.O, g_at wv (by omega) (by omega), bx_inl, wv.O, g_bill hN wv (int_r), fo, if_neg (by omega), bx_inl]
    by_cases he : fd V r 0 = sid ∨ fd V r 4 ≠ -1
    · rw [p31_out hN c0 (by omega) wv hs k0 k1 he, jn_eq, jn_eq]
      have rest : ∃ h2 c2 W, P_W_lengthOfWaiting_12 Θ N K f (J sid) w h (J ((r : Int) - 1)) = K h2 ∧ WV Θ f o c2 v h2 W ∧ LWI V0 sid u (-1) W ∧ 0 ≤ c2 ∧ c2 ≤ 2000 ∧ Nx Θ h h2 (KR f) 0 0 := by
        refine ih w c K0 h V (by omega) ⟨l1, by omega, fun i j i0 i1 j0 j1 => l3 i j i0 (by omega) j0 j1, fun i i0 i1 i2 => ?_, l5, l6⟩ c0 hc (by omega) wv
        by_cases z : i = r
        · rw [z]; exact he.symm
        · exact l4 i i0 (by omega) i2
      by_cases z : fd V r 0 = sid
      · rw [if_pos (by rw [z]), er]
        exact rest
      · rw [if_neg (by rw [J_eq (by omega) (by omega) hs.1 hs.2]; exact z), wv.O, g_isIn hN wv (int_r), fo, if_neg (by omega), bx_inl, if_pos (he.resolve_left z), if_neg (show ¬ J 1 = (0 : Int32) by decide), er]
        exact rest
    · have z : fd V r 0 ≠ sid := fun q => he (Or.inl q)
      have hd : fd V r 4 = -1 := Decidable.not_not.mp (fun q => he (Or.inr q))
      have bk := b0.2.2 r k0 k1
      have h7 := I.h7
      obtain ⟨h2, c2, W, q1, q2, q3, q4, q5, q6, q7⟩ := pay_L (Θ := Θ) (o := o) (f := f) (v := v) hN (sid := sid) (kk := r) (K0 := K0) (k := r) hs (K := fun h13 => (jn (fun (h15 : mH) (s16 : Int32) => (P_W_lengthOfWaiting_12 Θ N K f (J sid) w h15 (J (r : Int) + (J (-1))))) (fun j14 => (jn (fun (h18 : mH) => (j14 h18 (J 0))) (fun j17 => (if J (fd V r 0) = J sid then (j17 h13) else (gO Θ h13 0 f (bx (P_F_isInDock Θ N h13 f (J (fd V r 0))) (fun v20 h19 => (if v20 = 0 then (gO Θ h19 0 f (bx (P_F_removeShip Θ N h19 f (J (fd V r 0))) (fun v22 h21 => (j14 h21 v22)) (fun n9 h9 => xp n9 h9))) else (j17 h19))) (fun n9 h9 => xp n9 h9))))))))) 1990 N c h V k0 k1 hd z (by omega) (by omega) c0 hc (by omega) wv
      have w4 := q6 4 (by omega)
      have wf : ∀ i j : Int, 0 ≤ i → 0 ≤ j → j ≤ 8 → ¬ (i = r ∧ j = 8) → fd W i j = fd V i j := fun i j i0 j0 j1 n => by rw [q7 i j i0 j0 j1, if_neg n]
      have e0 := wf r 0 k0 (by omega) (by omega) (by omega)
      have e4 := wf r 4 k0 (by omega) (by omega) (by omega)
      have e8 := q7 r 8 k0 (by omega) (by omega)
      rw [if_pos ⟨rfl, rfl⟩] at e8
      have k1' : (r : Int) < W 4 := by rw [w4]; exact k1
      have I2 := q2.i
      have fo2 := fnd_of I2 k0 k1'
      rw [e0] at fo2
      have c2l : c2 ≤ 2000 := by
        have b2 := bills_0 I2
        have := q6 6 (by omega)
        omega
      obtain ⟨h3, r1, r2, r3⟩ := rmv_go (N := N) hN q4 c2l q2 k0 k1' (by rw [e4]; exact hd) e8
      rw [e0] at r1
      rw [q1, jn_eq, jn_eq, if_neg (by rw [J_eq (by omega) (by omega) hs.1 hs.2]; exact z), q2.O, g_isIn hN q2 (int_r), fo2, if_neg (by omega), bx_inl, if_pos (by rw [e4, hd]; decide), q2.O, r1, bx_inl, er]
      have r4 : rmvV W r 4 = W 4 - 1 := by unfold rmvV; rw [up1_eq]
      have rl : ∀ j : Int, j < 8 → j ≠ 4 → rmvV W r j = W j := fun j a b => rmvV_lo k0 a b
      have rf : ∀ i j : Int, 0 ≤ i → i ≤ 6 → 0 ≤ j → j ≤ 8 → fd (rmvV W r) i j = if i < r then fd W i j else fd W (i + 1) j := fun i j a b d e => rmvV_fd k0 a b ⟨d, e⟩
      obtain ⟨h9, c9, W9, s1, s2, s3, s4, s5, s6⟩ := ih w (c2 + 1) (K0 + 1998) h3 (rmvV W r) (by omega) (by
        refine ⟨⟨fun j hj => ?_, ?_⟩, by rw [r4, w4]; omega, fun i j i0 i1 j0 j1 => ?_, fun i i0 i1 i2 => ?_, fun p => ?_, ?_⟩
        · rw [rl j (by omega) (by omega), q6 j (by omega)]
          exact l1.1 j hj
        · rw [rl 6 (by omega) (by omega), q6 6 (by omega)]
          exact l1.2
        · rw [rf i j i0 (by omega) j0 j1, if_pos (by omega), wf i j i0 j0 j1 (by omega)]
          exact l3 i j i0 (by omega) j0 j1
        · rw [r4, w4] at i2
          rw [rf i 4 i0 (by omega) (by omega) (by omega), rf i 0 i0 (by omega) (by omega) (by omega), if_neg (by omega), if_neg (by omega), wf (i + 1) 4 (by omega) (by omega) (by omega) (by omega), wf (i + 1) 0 (by omega) (by omega) (by omega) (by omega)]
          exact l4 (i + 1) (by omega) (by omega) (by omega)
        · rw [at_rmv (by rw [w4]; exact h4.2) k0 k1' (by rw [e4]; exact hd), at_same w4 (fun k ka kb => ⟨wf k 1 ka (by omega) (by omega) (by omega), wf k 4 ka (by omega) (by omega) (by omega)⟩)]
          exact l5 p
        · obtain ⟨i, i0, i1, t0, t1, t2, t4⟩ := l6
          have nr : i ≠ r := fun e => z (by rw [← e]; exact t0)
          have g : ∀ j : Int, 0 ≤ j → j ≤ 4 → fd W i j = fd V i j := fun j a b => wf i j i0 a (by omega) (by omega)
          by_cases lt : i < r
          · refine ⟨i, i0, by rw [r4, w4]; omega, ?_, ?_, ?_, ?_⟩
            · rw [rf i 0 i0 (by omega) (by omega) (by omega), if_pos lt, g 0 (by omega) (by omega)]; exact t0
            · rw [rf i 1 i0 (by omega) (by omega) (by omega), if_pos lt, g 1 (by omega) (by omega)]; exact t1
            · rw [rf i 2 i0 (by omega) (by omega) (by omega), if_pos lt, g 2 (by omega) (by omega)]; exact t2
            · rw [rf i 4 i0 (by omega) (by omega) (by omega), if_pos lt, g 4 (by omega) (by omega)]; exact t4
          · refine ⟨i - 1, by omega, by rw [r4, w4]; omega, ?_, ?_, ?_, ?_⟩
            · rw [rf (i - 1) 0 (by omega) (by omega) (by omega) (by omega), if_neg (by omega), show i - 1 + 1 = i by omega, g 0 (by omega) (by omega)]; exact t0
            · rw [rf (i - 1) 1 (by omega) (by omega) (by omega) (by omega), if_neg (by omega), show i - 1 + 1 = i by omega, g 1 (by omega) (by omega)]; exact t1
            · rw [rf (i - 1) 2 (by omega) (by omega) (by omega) (by omega), if_neg (by omega), show i - 1 + 1 = i by omega, g 2 (by omega) (by omega)]; exact t2
            · rw [rf (i - 1) 4 (by omega) (by omega) (by omega) (by omega), if_neg (by omega), show i - 1 + 1 = i by omega, g 4 (by omega) (by omega)]; exact t4) (by omega) (by rw [rl 7 (by omega) (by omega)]; omega) (by rw [rl 6 (by omega) (by omega), q6 6 (by omega)]; omega) r2
      exact ⟨h9, c9, W9, s1, s2, s3, s4, s5, (q3.trans r3).trans s6⟩
/-- after all others outside are gone -/
theorem lwi_end (I : In c W) {sid u : Int} (hL : LWI V sid u (-1) W) (hu : fd V u 4 = -1) (hl : 0 < fd V u 1) {x : Int} (hx : isM (wlist W (mny W)) (gps W) x) : x = lnw V u := by
  obtain ⟨l1, l2, l3, l4, l5, i, i0, i1, t0, t1, t2, t4⟩ := hL
  have h4 := I.h4
  have e : (mny W : Int) = W 4 := by unfold mny; omega
  have wo := wlist_one (W := W) (u := i) (fun k k0 kn k1 z => by
    rcases l4 k k0 (by omega) k1 with q | q
    · exact q z
    · exact kn (id_uniq I k0 k1 i0 i1 (q.trans t0.symm))) (mny W) (by omega)
  rw [gps_same l5] at hx
  rw [wo, t4, t2, t1, l1.1 1 (by omega)] at hx
  unfold lnw
  by_cases z : fd V u 2 + 2 ≤ V 1
  · rw [if_pos ⟨i0, by omega, hu, z⟩] at hx
    have := isM_one hl hx
    rw [this]
    by_cases q : fd V u 1 ≤ mxg (gps V)
    · rw [if_pos q, if_pos ⟨hu, z, q⟩]
    · rw [if_neg q, if_neg (fun a => q a.2.2)]
  · rw [if_neg (fun a => z a.2.2.2)] at hx
    rw [isM_nil hx, if_neg (fun a => z a.2.1)]
theorem w_len (hN : 2000 ≤ N) (c0 : 0 ≤ c) (c1 : c ≤ 150) (wv : WV Θ f o c v h V) {u : Int} (u0 : 0 ≤ u) (u1 : u < V 4) (hu : fd V u 4 = -1) : ∃ h2, P_W_lengthOfWaiting Θ N h f (J (fd V u 0)) = some (.inl (J (lnw V u)), h2) ∧ WV Θ f none c v h2 V ∧ Nx Θ h h2 (KC f v) 0 0 := by
  have I := wv.i
  have h4 := I.h4
  have ir := id_rng I c0 (by omega) u0 u1
  have su := I.sh u u0 u1
  unfold shOK at su
  obtain ⟨S, rfl, so, wd⟩ := id wv
  obtain ⟨ha, Sa, a1, a2, a3, a4, a5, a6⟩ := x_save (N := N) hN wd.k
  have wa : WV Θ f (some (S 1)) c v ha (S 1) := ⟨Sa, a4, ⟨a5, a6⟩, wd.kr a2 a3⟩
  have h7 := I.h7
  have b0 := bills_0 I
  obtain ⟨hb, c2, W, b1, b2, b3, b4, b5, b6⟩ := len_L (Θ := Θ) (o := some (S 1)) (V0 := S 1) (f := f) (v := v) hN (sid := fd (S 1) u 0) (u := u) (int_r) (K := fun h23 => (gO Θ h23 0 f (bc (P_F_mostFittingMetres Θ N h23 f) (fun v25 h24 => (gO Θ h24 0 f (bx (P_F_restore Θ N h24 f) (fun v27 h26 => (some (.inl v25, h26))) (fun n9 h9 => xp n9 h9))))))) (S 1 4).toNat N c (999 * c) ha (S 1) (by omega) ⟨⟨fun _ _ => rfl, rfl⟩, by omega, fun _ _ _ _ _ _ => rfl, fun i i0 i1 i2 => by omega, fun _ => Iff.rfl, u, u0, u1, rfl, rfl, rfl, rfl⟩ c0 (by omega) (by omega) wa
  obtain ⟨Sb, eb, ⟨sb4, sb3⟩, wb⟩ := id b2
  obtain ⟨x, hc, d1, d2, d3, d4, d5⟩ := x_fit3 (N := N) hN wb.k wb.g
  rw [eb] at d2
  have ex := lwi_end b2.i b3 hu (by omega) d2
  have wc := wb.fit d3 d4 d5
  obtain ⟨hd, Sd, f1, f2, f3, f4⟩ := x_restore (N := N) hN d3 sb4 (c2 := c) (U := S 1) I sb3 (d3.ok.1.ok)
  have we := wc.kr f2 f3
  have fin := f2.cg (V := S 1) f4 I.ok
  have wz : WD Θ f c v hd (ur Sd (S 1)) := wc.kr fin f3
  refine ⟨hd, ?_, ⟨ur Sd (S 1), if_pos rfl, trivial, wz⟩, ?_⟩
  · unfold P_W_lengthOfWaiting
    rw [wd.O, a1, bc_some, wa.O, g_count wa, bc_some, J_sub, show S 1 4 - 1 = (((S 1 4).toNat : Nat) : Int) - 1 by omega, b1, wb.O, d1, bc_some, wc.O, f1, bx_inl, ex]
  · have k1 : ∀ {ha hb : mH}, Nx Θ ha hb (KR f) 0 0 → Nx Θ ha hb (KC f v) 0 0 := fun a => (FR.kr (v := v) a).1
    exact (((k1 a3).trans (k1 b6)).trans (FR.fit (v := v) d5).1).trans (k1 f3)
end LN8
