/-! the length of a waiting ship, as the law finds it -/
section LW7
variable {Θ : mW} {o : Option (Int → Int)} {N f v q : Nat} {c c2 : Int} {S : Nat → Int → Int} {h h1 h2 h3 : mH} {V V2 W : Int → Int}
theorem bills_0 (I : In c V) : 0 ≤ V 7 ∧ V 7 ≤ V 6 ∧ ∀ k : Int, 0 ≤ k → k < V 4 → 0 ≤ fd V k 8 ∧ fd V k 8 ≤ V 6 - V 7 := by
  have h4 := I.h4
  have h7 := I.h7
  have e : (mny V : Int) = V 4 := by unfold mny; omega
  have z := smm_0 (V := V) (i := 8) (mny V) (fun k hk => by
    have s := I.sh k (by omega) (by omega)
    unfold shOK at s
    omega)
  refine ⟨h7.1, by omega, fun k k0 k1 => ?_⟩
  have s := I.sh k k0 k1
  unfold shOK at s
  have := z.2 k.toNat (by omega)
  rw [show ((k.toNat : Nat) : Int) = k by omega] at this
  omega
/-- a change that succeeds -/
theorem fc_go (w : WV Θ f o c v h V) {pf : (S : Nat → Int → Int) → Prop} {op : Option ((Int32 ⊕ Nat) × mH)} {g : (Int → Int) → Oc} (hf : ∀ S, S 1 = V → KX Θ f c h S (fun _ => False) → FC Θ f c h S op (g V)) {a : Int} (hg : g V = .inl (a, W)) : ∃ h2, op = some (.inl (J a), h2) ∧ WV Θ f o (c + 1) v h2 W ∧ Nx Θ h h2 (KR f) 0 0 := by
  obtain ⟨S, e, so, w⟩ := w
  obtain ⟨S', h1, a1, a2, a3, a4, a5, a6⟩ := hf S e w.k
  rw [hg] at a1 a3 a4
  exact ⟨h1, a1, ⟨S', a4, so.sm a5 a6, w.kr a2 a3⟩, a3⟩
theorem pay_go (hN : 2000 ≤ N) (c0 : 0 ≤ c) (c1 : c ≤ 2000) (w : WV Θ f o c v h V) {k x : Int} (k0 : 0 ≤ k) (k1 : k < V 4) (x0 : 1 ≤ x) (x1 : x ≤ 999) (xb : x ≤ fd V k 8) : ∃ h2, P_F_pay Θ N h f (J (fd V k 0)) (J x) = some (.inl (J (fd V k 8 - x)), h2) ∧ WV Θ f o (c + 1) v h2 (payV V k x) ∧ Nx Θ h h2 (KR f) 0 0 := by
  have I := w.i
  have ir := id_rng I c0 c1 k0 k1
  have fo := fnd_of I k0 k1
  refine fc_go w (pf := fun _ => True) (g := gPay (fd V k 0) x) (fun S e kx => ?_) ?_
  · have := x_pay (N := N) (i := fd V k 0) (x := x) (int_r) (int_r) hN c0 c1 kx
    rwa [e] at this
  · unfold gPay
    rw [fo, if_neg (by omega), if_neg (by omega), if_neg (by omega)]
theorem rmv_go (hN : 2000 ≤ N) (c0 : 0 ≤ c) (c1 : c ≤ 2000) (w : WV Θ f o c v h V) {k : Int} (k0 : 0 ≤ k) (k1 : k < V 4) (h4 : fd V k 4 = -1) (h8 : fd V k 8 = 0) : ∃ h2, P_F_removeShip Θ N h f (J (fd V k 0)) = some (.inl (J (fd V k 3)), h2) ∧ WV Θ f o (c + 1) v h2 (rmvV V k) ∧ Nx Θ h h2 (KR f) 0 0 := by
  have I := w.i
  have ir := id_rng I c0 c1 k0 k1
  have fo := fnd_of I k0 k1
  refine fc_go w (pf := fun _ => True) (g := gRmv (fd V k 0)) (fun S e kx => ?_) ?_
  · have := x_rmv (N := N) (i := fd V k 0) (int_r) hN c0 c1 kx
    rwa [e] at this
  · unfold gRmv
    rw [fo, if_neg (by omega), if_neg (fun z => z ⟨h4, h8⟩)]
theorem wv_at {α : Type} (w : WV Θ f o c v h V) {P : (Int → Int) → Prop} (p : ∀ S, S 1 = V → KX Θ f c h S (fun _ => False) → P (S 1)) : P V := by
  obtain ⟨S, e, so, w⟩ := w
  rw [← e]
  exact p S e w.k
theorem g_isIn (hN : 2000 ≤ N) (w : WV Θ f o c v h V) {i : Int} (hi : int' i) : P_F_isInDock Θ N h f (J i) = if fnd V i (mny V) = -1 then some (.inr 10, h ++ [oB 10 []]) else some (.inl (J (if fd V (fnd V i (mny V)) 4 ≠ -1 then 1 else 0)), h) := by
  obtain ⟨S, rfl, so, w⟩ := w
  exact x_isInDock hi hN w.k
theorem g_bill (hN : 2000 ≤ N) (w : WV Θ f o c v h V) {i : Int} (hi : int' i) : P_F_billOf Θ N h f (J i) = if fnd V i (mny V) = -1 then some (.inr 10, h ++ [oB 10 []]) else some (.inl (J (fd V (fnd V i (mny V)) 8)), h) := by
  obtain ⟨S, rfl, so, w⟩ := w
  exact x_billOf hi hN w.k
theorem g_at (w : WV Θ f o c v h V) {p : Int} (hp : 0 ≤ p ∧ p ≤ V 4 - 1) (p2 : p < 100) : P_F_shipAt Θ N h f (J p) = some (.inl (J (fd V p 0)), h) := by
  obtain ⟨S, rfl, so, w⟩ := w
  rw [x_shipAt (int_r) w.k, if_pos hp]
theorem g_count (w : WV Θ f o c v h V) : P_F_shipCount Θ N h f = some (J (V 4), h) := by
  obtain ⟨S, rfl, so, w⟩ := w
  exact x_shipCount w.k
/-- the bill of a ship outside is paid -/
theorem pay_L (hN : 2000 ≤ N) {sid kk K0 : Int} {k : Int} (hs : int' sid) {K : mH → Option ((Int32 ⊕ Nat) × mH)} : ∀ (B w : Nat) (c : Int) (h : mH) (V : Int → Int), 0 ≤ k → k < V 4 → fd V k 4 = -1 → fd V k 0 ≠ sid → fd V k 8 ≤ 999 * B → B < w → 0 ≤ c → 999 * c ≤ V 7 + K0 → V 6 + K0 ≤ 1990000 → WV Θ f o c v h V → ∃ h2 c2 W, P_W_lengthOfWaiting_31 Θ N K f (J sid) (J kk) (J (fd V k 0)) w h (J (fd V k 8)) = K h2 ∧ WV Θ f o c2 v h2 W ∧ Nx Θ h h2 (KR f) 0 0 ∧ 0 ≤ c2 ∧ 999 * c2 ≤ W 7 + K0 + 999 ∧ (∀ j : Int, j < 7 → W j = V j) ∧ (∀ i j : Int, 0 ≤ i → 0 ≤ j → j ≤ 8 → fd W i j = if i = k ∧ j = 8 then 0 else fd V i j) := by
  intro B
  induction B with
  | zero =>
    intro w c h V k0 k1 h4 hne hb hw c0 hc hK wv
    obtain ⟨w, rfl⟩ : ∃ n', w = n' + 1 := ⟨w - 1, by omega⟩
    have I := wv.i
    have b0 := bills_0 I
    have bk := b0.2.2 k k0 k1
    have ir := id_rng I c0 (by omega) k0 k1
    rw [E_W_lengthOfWaiting_31, B_W_lengthOfWaiting_31, if_neg (by rw [J_eq (by omega) (by omega) hs.1 hs.2]; exact hne), wv.O, g_isIn hN wv (int_r), fnd_of I k0 k1, if_neg (by omega), bx_inl, h4, if_neg (show ¬ ((-1 : Int) ≠ -1) by decide), if_pos (show J 0 = (0 : Int32) from rfl), if_pos (by rw [J_le0] <;> omega)]
    refine ⟨h, c, V, rfl, wv, Nx.refl, c0, by omega, fun _ _ => rfl, fun i j i0 j0 j1 => ?_⟩
    by_cases z : i = k ∧ j = 8
    · rw [if_pos z, z.1, z.2]; omega
    · rw [if_neg z]
  | succ B ih =>
    intro w c h V k0 k1 h4 hne hb hw c0 hc hK wv
    obtain ⟨w, rfl⟩ : ∃ n', w = n' + 1 := ⟨w - 1, by omega⟩
    have I := wv.i
    have b0 := bills_0 I
    have bk := b0.2.2 k k0 k1
    have ir := id_rng I c0 (by omega) k0 k1
    have h4' := I.h4
    rw [E_W_lengthOfWaiting_31, B_W_lengthOfWaiting_31, if_neg (by rw [J_eq (by omega) (by omega) hs.1 hs.2]; exact hne), wv.O, g_isIn hN wv (int_r), fnd_of I k0 k1, if_neg (by omega), bx_inl, h4, if_neg (show ¬ ((-1 : Int) ≠ -1) by decide), if_pos (show J 0 = (0 : Int32) from rfl)]
    by_cases z : fd V k 8 ≤ 0
    · rw [if_pos (by rw [J_le0] <;> omega)]
      refine ⟨h, c, V, rfl, wv, Nx.refl, c0, by omega, fun _ _ => rfl, fun i j i0 j0 j1 => ?_⟩
      by_cases z : i = k ∧ j = 8
      · rw [if_pos z, z.1, z.2]; omega
      · rw [if_neg z]
    · obtain ⟨h2, p1, p2, p3⟩ := pay_go (N := N) hN c0 (by omega) wv k0 k1 (x := min 999 (fd V k 8)) (by omega) (by omega) (by omega)
      have vf := I.h7
      rw [if_neg (by rw [J_le0] <;> omega), wv.O, J_mn (by omega) (by omega) (by omega) (by omega), p1, bx_inl]
      have pf : ∀ i j : Int, 0 ≤ i → 0 ≤ j → j ≤ 8 → fd (payV V k (min 999 (fd V k 8))) i j = if i = k ∧ j = 8 then fd V k 8 - min 999 (fd V k 8) else fd V i j := fun i j i0 j0 j1 => payV_fd i0 ⟨j0, j1⟩
      have pl : ∀ j : Int, j < 7 → payV V k (min 999 (fd V k 8)) j = V j := fun j hj => payV_lo k0 hj
      have p7 : payV V k (min 999 (fd V k 8)) 7 = V 7 + min 999 (fd V k 8) := by unfold payV; rw [up1_eq]
      have e8 := pf k 8 k0 (by omega) (by omega)
      rw [if_pos ⟨rfl, rfl⟩] at e8
      have e0 := pf k 0 k0 (by omega) (by omega)
      rw [if_neg (by omega)] at e0
      have e4 := pf k 4 k0 (by omega) (by omega)
      rw [if_neg (by omega)] at e4
      by_cases big : 999 ≤ fd V k 8
      · rw [← e0, ← e8]
        obtain ⟨h3, c2, W, q1, q2, q3, q4, q5, q6, q7⟩ := ih w (c + 1) h2 _ k0 (by rw [pl 4 (by omega)]; exact k1) (by rw [e4]; exact h4) (by rw [e0]; exact hne) (by rw [e8]; omega) (by omega) (by omega) (by rw [p7]; omega) (by rw [pl 6 (by omega)]; exact hK) p2
        refine ⟨h3, c2, W, q1, q2, p3.trans q3, q4, q5, fun j hj => (q6 j hj).trans (pl j hj), fun i j i0 j0 j1 => ?_⟩
        rw [q7 i j i0 j0 j1]
        by_cases zz : i = k ∧ j = 8
        · rw [if_pos zz, if_pos zz]
        · rw [if_neg zz, if_neg zz, pf i j i0 j0 j1, if_neg zz]
      · -- the last one
        obtain ⟨w, rfl⟩ : ∃ n', w = n' + 1 := ⟨w - 1, by omega⟩
        have I2 := p2.i
        have ir2 : 0 ≤ fd V k 0 ∧ fd V k 0 < 100000 := ir
        have k1' : k < payV V k (min 999 (fd V k 8)) 4 := by rw [pl 4 (by omega)]; exact k1
        have fo := fnd_of I2 k0 k1'
        rw [e0] at fo
        rw [E_W_lengthOfWaiting_31, B_W_lengthOfWaiting_31, if_neg (by rw [J_eq (by omega) (by omega) hs.1 hs.2]; exact hne), p2.O, g_isIn hN p2 (int_r), fo, if_neg (by omega), bx_inl, e4, h4, if_neg (show ¬ ((-1 : Int) ≠ -1) by decide), if_pos (show J 0 = (0 : Int32) from rfl), if_pos (by rw [J_le0] <;> omega)]
        refine ⟨h2, c + 1, _, rfl, p2, p3, by omega, by rw [p7]; omega, pl, fun i j i0 j0 j1 => ?_⟩
        rw [pf i j i0 j0 j1]
        by_cases zz : i = k ∧ j = 8
        · rw [if_pos zz, if_pos zz]; omega
        · rw [if_neg zz, if_neg zz]
end LW7
