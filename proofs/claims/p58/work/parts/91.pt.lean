/-! the class's packing, on: by trying, by table -/
section G3
variable {Θ : mW} {N g b : Nat} {E : Nat → Int → Int} {D : Nat → Int → Int} {V : Int → Int} {h : mH} {G H M : Int}
theorem up2_self {i : Nat} {k : Int} : up2 E i k (E i k) = E := by
  funext a j
  rw [up2_at]
  split
  · rename_i c; rw [c.1, c.2]
  · rfl
theorem c_try_L (hb : bOK Θ 5 g h) {n m i : Nat} (hn : E 0 3 = n) (n8 : n ≤ 8) (hm : E 0 1 = m) (m9 : m ≤ 9) (hi : i < n) (hl : ∀ k : Int, 0 ≤ k → k < n → 0 ≤ E 2 k ∧ E 2 k ≤ 60) (hg : ∀ k : Int, 0 ≤ k → k < m → 0 ≤ E 1 k ∧ E 1 k ≤ 60) {rec : mH → Nat → Int32 → Option (Int32 × mH)}
    (hrec : ∀ k : Int, 0 ≤ k → k < m → E 2 i ≤ E 1 k → ∃ v, rec (HG Θ g (up2 E 1 k (E 1 k - E 2 i)) h) g (J ((i : Int) + 1)) = some (J v, HG Θ g (up2 E 1 k (E 1 k - E 2 i)) h) ∧ isC (wl (E 2) (n - i - 1) ((i : Int) + 1)) (wl (up1 (E 1) k (E 1 k - E 2 i)) m 0) v)
    {K : mH → Int32 → Option (Int32 × mH)} : ∀ (r j q : Nat) (v : Int), j + r = m → r < q → (∃ y, ach (E 2 i :: wl (E 2) (n - i - 1) ((i : Int) + 1)) (wl (E 1) m 0) v y) → (∀ c y, ach (wl (E 2) (n - i - 1) ((i : Int) + 1)) (wl (E 1) m 0) c y → c ≤ v) → (∀ k : Int, 0 ≤ k → k < j → E 2 i ≤ E 1 k → ∀ c y, ach (wl (E 2) (n - i - 1) ((i : Int) + 1)) (wl (up1 (E 1) k (E 1 k - E 2 i)) m 0) c y → c + 1 ≤ v) → ∃ u, P_G_mostFrom_28 Θ N K rec g (J i) (J (E 2 i)) q (HG Θ g E h) (J v) (J j) = K (HG Θ g E h) (J u) ∧ isC (E 2 i :: wl (E 2) (n - i - 1) ((i : Int) + 1)) (wl (E 1) m 0) u := by
  intro r
  have hi' := hl i (by omega) (by omega)
  induction r with
  | zero =>
    intro j q v hj hq h1 h2 h3
    obtain ⟨q, rfl⟩ : ∃ n', q = n' + 1 := ⟨q - 1, by omega⟩
    rw [E_G_mostFrom_28, B_G_mostFrom_28, gf_I1 hb, bo_some, if_pos (by rw [J_le] <;> omega)]
    refine ⟨v, rfl, h1, fun c y hc => ?_⟩
    rcases hc with hc | ⟨x, hx, hc⟩
    · exact h2 c y hc
    · obtain ⟨k, k1, k2, k3, rfl⟩ := (tk_wl m 0).mp hx
      have := h3 k k1 (by omega) k3 _ _ hc
      omega
  | succ r ih =>
    intro j q v hj hq h1 h2 h3
    obtain ⟨q, rfl⟩ : ∃ n', q = n' + 1 := ⟨q - 1, by omega⟩
    have hgj := hg j (by omega) (by omega)
    have hv : 0 ≤ v ∧ v ≤ 100 := by
      obtain ⟨y, hy⟩ := h1
      have := ach_rng _ _ _ _ hy
      rw [List.length_cons, wl_len] at this
      omega
    have e1 : ((j + 1 : Nat) : Int) = (j : Int) + 1 := by omega
    rw [E_G_mostFrom_28, B_G_mostFrom_28, gf_I1 hb, bo_some, if_neg (by rw [J_le] <;> omega), gf_A0 hb, bo_some, gf_a1 hb (by omega) (by omega), bo_some, jn_eq]
    by_cases c : E 1 j < E 2 i
    · rw [if_pos (by rw [J_lt] <;> omega)]
      dsimp only
      rw [J_add, ← e1]
      refine ih (j + 1) q v (by omega) (by omega) h1 h2 (fun k k1 k2 k3 => ?_)
      by_cases d : k = j
      · rw [d] at k3
        omega
      · exact h3 k k1 (by omega) k3
    · obtain ⟨u, p1, p2⟩ := hrec j (by omega) (by omega) (by omega)
      rw [if_neg (by rw [J_lt] <;> omega), bo_some, gf_a1 hb (by omega) (by omega), bo_some, J_sub, gf_w1 hb (by omega) (by omega), bo_some, J_add, p1, bc_some, gf_A0 hb, bo_some, gf_a1 hb (by omega) (by omega), bo_some, up2_eq, J_add, gf_w1 hb (by omega) (by omega), bo_some, up2_2, show E 1 j - E 2 i + E 2 i = E 1 j by omega, up2_self]
      dsimp only
      have hu : 0 ≤ u ∧ u ≤ 100 := by
        obtain ⟨y, hy⟩ := p2.1
        have := ach_rng _ _ _ _ hy
        rw [wl_len] at this
        omega
      rw [J_add, J_mx (by omega) (by omega) (by omega) (by omega), J_add, ← e1]
      refine ih (j + 1) q (max v (1 + u)) (by omega) (by omega) ?_ (fun c y hc => ?_) (fun k k1 k2 k3 c y hc => ?_)
      · by_cases d : v < 1 + u
        · rw [Int.max_eq_right (by omega)]
          obtain ⟨y, hy⟩ := p2.1
          refine ⟨y + E 2 i, Or.inr ⟨_, (tk_wl m 0).mpr ⟨j, by omega, by omega, by omega, rfl⟩, ?_⟩⟩
          rw [show 1 + u - 1 = u by omega, show y + E 2 i - E 2 i = y by omega]
          exact hy
        · rw [Int.max_eq_left (by omega)]
          exact h1
      · have := h2 c y hc
        omega
      · by_cases d : k = j
        · rw [d] at hc
          have := p2.2 _ _ hc
          omega
        · have := h3 k k1 (by omega) k3 c y hc
          omega
theorem c_try (hN : 2000 ≤ N) (hb : bOK Θ 5 g h) {n m : Nat} (n8 : n ≤ 8) (m9 : m ≤ 9) : ∀ (f i : Nat) (E : Nat → Int → Int), E 0 3 = n → E 0 1 = m → (∀ k : Int, 0 ≤ k → k < n → 0 ≤ E 2 k ∧ E 2 k ≤ 60) → (∀ k : Int, 0 ≤ k → k < m → 0 ≤ E 1 k ∧ E 1 k ≤ 60) → i ≤ n → n - i < f → ∃ v, P_G_mostFrom Θ N f (HG Θ g E h) g (J i) = some (J v, HG Θ g E h) ∧ isC (wl (E 2) (n - i) i) (wl (E 1) m 0) v := by
  intro f
  induction f with
  | zero => intro i E _ _ _ _ _ hf; omega
  | succ f ih =>
    intro i E hn hm hl hg hi hf
    rw [E_G_mostFrom, R_G_mostFrom, gf_I3 hb, bo_some]
    by_cases c : i = n
    · rw [if_neg (by rw [J_lt] <;> omega), show n - i = 0 by omega]
      refine ⟨0, rfl, ⟨0, rfl, rfl⟩, fun c y hc => ?_⟩
      have := hc.1
      omega
    · have hi' := hl i (by omega) (by omega)
      have e1 : ((i + 1 : Nat) : Int) = (i : Int) + 1 := by omega
      obtain ⟨v0, p1, p2⟩ := ih (i + 1) E hn hm hl hg (by omega) (by omega)
      rw [e1] at p1 p2
      rw [show n - (i + 1) = n - i - 1 by omega] at p2
      rw [if_pos (by rw [J_lt] <;> omega), J_add, p1, bc_some, gf_A2 hb, bo_some, gf_a2 hb (by omega) (by omega), bo_some]
      have hrec : ∀ k : Int, 0 ≤ k → k < m → E 2 i ≤ E 1 k → ∃ v, P_G_mostFrom Θ N f (HG Θ g (up2 E 1 k (E 1 k - E 2 i)) h) g (J ((i : Int) + 1)) = some (J v, HG Θ g (up2 E 1 k (E 1 k - E 2 i)) h) ∧ isC (wl (E 2) (n - i - 1) ((i : Int) + 1)) (wl (up1 (E 1) k (E 1 k - E 2 i)) m 0) v := by
        intro k k1 k2 k3
        have hk := hg k k1 k2
        obtain ⟨v, a1, a2⟩ := ih (i + 1) (up2 E 1 k (E 1 k - E 2 i)) (by rw [up2_ne (by omega)]; exact hn) (by rw [up2_ne (by omega)]; exact hm) (fun x x1 x2 => by rw [up2_ne (by omega)]; exact hl x x1 x2) (fun x x1 x2 => by
          rw [up2_at]
          split
          · omega
          · exact hg x x1 x2) (by omega) (by omega)
        rw [e1] at a1 a2
        rw [show n - (i + 1) = n - i - 1 by omega, up2_row (by omega), up2_1] at a2
        exact ⟨v, a1, a2⟩
      obtain ⟨u, a1, a2⟩ := c_try_L (Θ := Θ) (N := N) (K := fun h20 u21 => some (u21, h20)) hb hn n8 hm m9 (i := i) (by omega) hl hg hrec m 0 N v0 (by omega) (by omega) (by
        obtain ⟨y, hy⟩ := p2.1
        exact ⟨y, Or.inl hy⟩) p2.2 (fun k k1 k2 => by omega)
      refine ⟨u, a1, ?_⟩
      rw [show n - i = (n - i - 1) + 1 by omega, wl]
      exact a2
theorem c_mostTry (hN : 2000 ≤ N) (hb : bOK Θ 5 g h) (hs : HB Θ shD b D h) (hx : g + 5 ≤ b ∨ b + 13 ≤ g) (hd : DV D V) (I : Inv G H M V) : ∃ E' v, P_G_mostByTrying Θ N (HG Θ g E h) g b = some (J v, HG Θ g E' h) ∧ isC (wlist V (mny V)) (gps V) v := by
  have h4 := I.h4
  unfold P_G_mostByTrying
  obtain ⟨E', p1, p2, p3⟩ := c_survey (E := E) hN hb hs hx hd I
  have hl := wlist_len (V := V) (mny V)
  have h9 := gps_9 I
  have hm : (mny V : Int) = V 4 := by unfold mny; omega
  obtain ⟨v, q1, q2⟩ := c_try (h := h) hN hb (n := (wlist V (mny V)).length) (m := (gps V).length) (by omega) h9 9 0 E' p2.1 p3.1 (fun k k1 k2 => by
    have := wlist_mem I (mny V) (by omega) (E' 2 k) (by
      rw [← p2.2]
      exact (wl_mem _ _).mpr ⟨k, k1, by omega, rfl⟩)
    omega) (fun k k1 k2 => gps_rng (V := V) (E' 1 k) (by
      rw [← p3.2]
      exact (wl_mem _ _).mpr ⟨k, k1, by omega, rfl⟩)) (by omega) (by omega)
  refine ⟨E', v, ?_, ?_⟩
  · rw [gf_O hb, p1, bc_some]
    exact (congrArg (fun q => bc q _) q1).trans rfl
  · rw [Nat.sub_zero, show ((0 : Nat) : Int) = 0 from rfl, p2.2, p3.2] at q2
    exact q2
/-! the table -/
theorem c_sumOf_L (hb : bOK Θ 5 g h) {n s : Nat} (hn : E 0 3 = n) (n8 : n ≤ 8) (hs : s < 256) {K : mH → Int32 → Option (Int32 × mH)} : ∀ (r j q : Nat), j + r = n → r < q → P_G_sumOf_4 Θ N K g (J s) q (HG Θ g E h) (J (MT (E 2) (tb s) j)) (J j) = K (HG Θ g E h) (J (MT (E 2) (tb s) n)) := by
  intro r
  induction r with
  | zero =>
    intro j q hj hq
    obtain ⟨q, rfl⟩ : ∃ n', q = n' + 1 := ⟨q - 1, by omega⟩
    rw [E_G_sumOf_4, B_G_sumOf_4, gf_I3 hb, bo_some, if_pos (by rw [J_le] <;> omega), show n = j by omega]
  | succ r ih =>
    intro j q hj hq
    obtain ⟨q, rfl⟩ : ∃ n', q = n' + 1 := ⟨q - 1, by omega⟩
    have ih' := ih (j + 1) q (by omega) (by omega)
    rw [MT] at ih'
    rw [E_G_sumOf_4, B_G_sumOf_4, gf_I3 hb, bo_some, if_neg (by rw [J_le] <;> omega), jn_eq, J_bit' hs (by omega), ← ih', show ((j + 1 : Nat) : Int) = (j : Int) + 1 by omega]
    by_cases c : tb s j = true
    · rw [if_pos c, if_pos c, if_neg (by rw [J_0, J_eq] <;> omega), gf_A2 hb, bo_some, gf_a2 hb (by omega) (by omega), bo_some]
      dsimp only
      rw [J_add, J_add]
    · rw [if_neg c, if_neg c, if_pos (by rfl), J_add]
      simp
theorem c_sumOf (hN : 2000 ≤ N) (hb : bOK Θ 5 g h) {n s : Nat} (hn : E 0 3 = n) (n8 : n ≤ 8) (hs : s < 256) : P_G_sumOf Θ N (HG Θ g E h) g (J s) = some (J (MT (E 2) (tb s) n), HG Θ g E h) := by
  unfold P_G_sumOf
  exact c_sumOf_L (K := fun h7 u8 => some (u8, h7)) hb hn n8 hs n 0 N (by omega) (by omega)
theorem two8 {n : Nat} (h : n ≤ 8) : 1 ≤ 2 ^ n ∧ 2 ^ n ≤ 256 := ⟨Nat.two_pow_pos n, (Nat.pow_le_pow_right (by omega) h : 2 ^ n ≤ 2 ^ 8)⟩
theorem c_fill0_L (hN : 2000 ≤ N) (hb : bOK Θ 5 g h) {n : Nat} (n8 : n ≤ 8) {E0 : Nat → Int → Int} (hn0 : E0 0 3 = n) {K : mH → Option (Unit × mH)} : ∀ (r j q : Nat) (E : Nat → Int → Int), j + r = 2 ^ n → r < q → (∀ a : Nat, a ≠ 3 → a ≠ 4 → E a = E0 a) → (∀ s : Nat, s < j → E 3 s = MT (E0 2) (tb s) n ∧ E 4 s = if s = 0 then 1 else 0) → ∃ E', P_G_fillTable_2 Θ N K g q (HG Θ g E h) (J j) = K (HG Θ g E' h) ∧ (∀ a : Nat, a ≠ 3 → a ≠ 4 → E' a = E0 a) ∧ (∀ s : Nat, s < 2 ^ n → E' 3 s = MT (E0 2) (tb s) n ∧ E' 4 s = if s = 0 then 1 else 0) := by
  intro r
  have t8 := two8 n8
  induction r with
  | zero =>
    intro j q E hj hq h1 h2
    obtain ⟨q, rfl⟩ : ∃ n', q = n' + 1 := ⟨q - 1, by omega⟩
    have hn : E 0 3 = n := by rw [h1 0 (by omega) (by omega)]; exact hn0
    rw [E_G_fillTable_2, B_G_fillTable_2, gf_I3 hb, bo_some, hn, J_shl' n8, if_pos (by rw [J_le] <;> omega)]
    exact ⟨E, rfl, h1, fun s hs => h2 s (by omega)⟩
  | succ r ih =>
    intro j q E hj hq h1 h2
    obtain ⟨q, rfl⟩ : ∃ n', q = n' + 1 := ⟨q - 1, by omega⟩
    have hn : E 0 3 = n := by rw [h1 0 (by omega) (by omega)]; exact hn0
    have e2 : E 2 = E0 2 := h1 2 (by omega) (by omega)
    rw [E_G_fillTable_2, B_G_fillTable_2, gf_I3 hb, bo_some, hn, J_shl' n8, if_neg (by rw [J_le] <;> omega), gf_A4 hb, bo_some, gf_O hb, c_sumOf hN hb hn n8 (by omega), bc_some, gf_w3 hb (by omega) (by omega), bo_some, gf_A5 hb, bo_some, jn_eq, e2]
    have e1 : ((j + 1 : Nat) : Int) = (j : Int) + 1 := by omega
    have fin : ∀ v : Int, v = (if j = 0 then 1 else 0) → ∃ E', P_G_fillTable_2 Θ N K g q (HG Θ g (up2 (up2 E 3 j (MT (E0 2) (tb j) n)) 4 j v) h) (J ((j : Int) + 1)) = K (HG Θ g E' h) ∧ (∀ a : Nat, a ≠ 3 → a ≠ 4 → E' a = E0 a) ∧ (∀ s : Nat, s < 2 ^ n → E' 3 s = MT (E0 2) (tb s) n ∧ E' 4 s = if s = 0 then 1 else 0) := by
      intro v hv
      rw [← e1]
      refine ih (j + 1) q _ (by omega) (by omega) (fun a a3 a4 => ?_) (fun s hs => ?_)
      · rw [up2_row a4, up2_row a3]
        exact h1 a a3 a4
      · by_cases c : s = j
        · subst c
          rw [up2_ne (by omega), up2_eq, up2_eq]
          exact ⟨rfl, hv⟩
        · rw [up2_ne (by omega), up2_nj (by omega), up2_nj (by omega), up2_ne (by omega)]
          exact h2 s (by omega)
    by_cases c : j = 0
    · rw [if_pos (by rw [c]; rfl)]
      dsimp only
      rw [gf_w4 hb (by omega) (by omega) (by omega), bo_some, J_add]
      exact fin 1 (by rw [if_pos c])
    · rw [if_neg (by rw [J_0, J_eq] <;> omega)]
      dsimp only
      rw [gf_w4 hb (by omega) (by omega) (by omega), bo_some, J_add]
      exact fin 0 (by rw [if_neg c])
def hasF (mt row : Int → Int) (x : Int) (s p : Nat) : Prop := ∃ u : Nat, 0 < u ∧ u ≤ p ∧ u &&& s = u ∧ mt u ≤ x ∧ row ((s ^^^ u : Nat) : Int) = 1
theorem xor_lt {s u : Nat} (h : u &&& s = u) (hu : 0 < u) : s ^^^ u < s := by
  rw [← sub_xor s u s (Nat.le_refl _) h]
  have : u ≤ s := by rw [← h]; exact Nat.and_le_right
  omega
theorem hasF_0 {mt row : Int → Int} {x : Int} {s : Nat} : ¬ hasF mt row x s 0 := by
  rintro ⟨u, a, b, _⟩
  omega
theorem hasF_ex {mt row : Int → Int} {x : Int} {s : Nat} : hasF mt row x s s ↔ ∃ u : Nat, 0 < u ∧ u &&& s = u ∧ mt u ≤ x ∧ row ((s ^^^ u : Nat) : Int) = 1 :=
  ⟨fun ⟨u, a, _, b⟩ => ⟨u, a, b⟩, fun ⟨u, a, b⟩ => ⟨u, a, by rw [← b.1]; exact Nat.and_le_right, b⟩⟩
theorem hasF_ext {mt row row' : Int → Int} {x : Int} {s p : Nat} (h : ∀ y : Nat, y < s → row y = row' y) : hasF mt row x s p → hasF mt row' x s p := by
  rintro ⟨u, a, b, c, d, e⟩
  exact ⟨u, a, b, c, d, by rw [← h _ (xor_lt c a)]; exact e⟩
theorem hasF_p {mt row : Int → Int} {x : Int} {s p : Nat} (h0 : 0 < p) (hp : p &&& s = p) (h1 : mt p ≤ x) (h2 : row ((s ^^^ p : Nat) : Int) = 1) : hasF mt row x s p := ⟨p, h0, Nat.le_refl _, hp, h1, h2⟩
theorem hasF_n {mt row : Int → Int} {x : Int} {s p : Nat} (hp : p &&& s = p) (h : ¬ (mt p ≤ x ∧ row ((s ^^^ p : Nat) : Int) = 1)) : hasF mt row x s p ↔ hasF mt row x s ((p - 1) &&& s) := by
  constructor
  · rintro ⟨u, a, b, e, f⟩
    refine ⟨u, a, ?_, e, f⟩
    by_cases z : u = p
    · rw [z] at f; exact absurd f h
    · exact sub_le p p u s (Nat.le_refl _) e hp (by omega)
  · rintro ⟨u, a, b, e, f⟩
    have : (p - 1) &&& s ≤ p - 1 := Nat.and_le_left
    exact ⟨u, a, by omega, e, f⟩
theorem c_fitsWith_L (hb : bOK Θ 5 g h) {s : Nat} {x : Int} (hs : s < 256) (hx : 0 ≤ x ∧ x ≤ 60) (h3 : ∀ q : Nat, q &&& s = q → 0 ≤ E 3 q ∧ E 3 q ≤ 10000) (h4 : ∀ q : Nat, q < s → E 4 q = 0 ∨ E 4 q = 1) {K : mH → Option (Int32 × mH)} : ∀ (p q : Nat), p &&& s = p → p < q → ∃ v : Int, P_G_fitsWith_2 Θ N K g (J s) (J x) q (HG Θ g E h) (J p) = (if v = 1 then some (J 1, HG Θ g E h) else K (HG Θ g E h)) ∧ (v = 0 ∨ v = 1) ∧ (v = 1 ↔ hasF (E 3) (E 4) x s p) := by
  intro p
  induction p using Nat.strongRecOn with
  | ind p ih =>
    intro q hp hq
    obtain ⟨q, rfl⟩ : ∃ n', q = n' + 1 := ⟨q - 1, by omega⟩
    have hps : p ≤ s := by rw [← hp]; exact Nat.and_le_right
    rw [E_G_fitsWith_2, B_G_fitsWith_2]
    by_cases c : p = 0
    · rw [if_pos (by rw [c]; decide)]
      exact ⟨0, by rw [if_neg (by omega)], Or.inl rfl, fun z => by omega, fun z => absurd (c ▸ z) hasF_0⟩
    · have b3 := h3 p hp
      have hn : (p - 1) &&& s ≤ p - 1 := Nat.and_le_left
      have hn2 : ((p - 1) &&& s) &&& s = (p - 1) &&& s := by rw [Nat.and_assoc, Nat.and_self]
      have e1 : (J p - J 1) &&& J s = J ((((p - 1) &&& s : Nat)) : Int) := by rw [J_sub, ← J_and, show (p : Int) - 1 = ((p - 1 : Nat) : Int) by omega]
      have ex : s - p = s ^^^ p := sub_xor s p s (Nat.le_refl _) hp
      obtain ⟨v, i1, i2, i3⟩ := ih ((p - 1) &&& s) (by omega) q hn2 (by omega)
      rw [if_neg (by rw [J_0, J_le] <;> omega), gf_A4 hb, bo_some, gf_a3 hb (by omega) (by omega), bo_some, jn_eq]
      by_cases d : E 3 p ≤ x
      · rw [if_neg (by rw [J_lt] <;> omega), gf_A5 hb, bo_some, J_sub, show (s : Int) - p = ((s ^^^ p : Nat) : Int) by rw [← ex]; omega, gf_a4 hb (by omega) (by rw [← ex]; omega), bo_some]
        have b4 := h4 (s ^^^ p) (by rw [← ex]; omega)
        by_cases f : E 4 ((s ^^^ p : Nat) : Int) = 1
        · rw [if_neg (by rw [f]; decide)]
          exact ⟨1, by rw [if_pos rfl], Or.inr rfl, fun _ => hasF_p (by omega) hp d f, fun _ => rfl⟩
        · rw [if_pos (by rw [show E 4 ((s ^^^ p : Nat) : Int) = 0 by omega]; rfl)]
          dsimp only
          rw [e1]
          exact ⟨v, i1, i2, i3.trans (hasF_n hp (fun z => f z.2)).symm⟩
      · rw [if_pos (by rw [J_lt] <;> omega)]
        dsimp only
        rw [e1]
        exact ⟨v, i1, i2, i3.trans (hasF_n hp (fun z => d z.1)).symm⟩
theorem c_fitsWith (hN : 2000 ≤ N) (hb : bOK Θ 5 g h) {s : Nat} {x : Int} (hs : s < 256) (hx : 0 ≤ x ∧ x ≤ 60) (h3 : ∀ q : Nat, q &&& s = q → 0 ≤ E 3 q ∧ E 3 q ≤ 10000) (h4 : ∀ q : Nat, q < s → E 4 q = 0 ∨ E 4 q = 1) : ∃ v : Int, P_G_fitsWith Θ N (HG Θ g E h) g (J s) (J x) = some (J v, HG Θ g E h) ∧ (v = 0 ∨ v = 1) ∧ (v = 1 ↔ hasF (E 3) (E 4) x s s) := by
  unfold P_G_fitsWith
  obtain ⟨v, a, b, c⟩ := c_fitsWith_L (Θ := Θ) (N := N) (K := fun h7 => some (J 0, h7)) hb hs hx h3 h4 s N (Nat.and_self s) (by omega)
  refine ⟨v, a.trans ?_, b, c⟩
  rcases b with rfl | rfl
  · rw [if_neg (by omega)]
  · rw [if_pos rfl]
/-- a row after a gap, above v -/
def nxt (mt row row' : Int → Int) (x : Int) (s : Nat) : Prop := (row' s = 0 ∨ row' s = 1) ∧ (row' s = 1 ↔ row s = 1 ∨ hasF mt row x s s)
theorem c_fillGap_L (hN : 2000 ≤ N) (hb : bOK Θ 5 g h) {n : Nat} (n8 : n ≤ 8) {x : Int} (hx : 0 ≤ x ∧ x ≤ 60) {E0 : Nat → Int → Int} (h3 : ∀ q : Nat, q < 2 ^ n → 0 ≤ E0 3 q ∧ E0 3 q ≤ 10000) (h4 : ∀ q : Nat, q < 2 ^ n → E0 4 q = 0 ∨ E0 4 q = 1) {K : mH → Option (Unit × mH)} : ∀ (v q : Nat) (E : Nat → Int → Int), v < 2 ^ n → v < q → (∀ a : Nat, a ≠ 4 → E a = E0 a) → (∀ s : Nat, s ≤ v → E 4 s = E0 4 s) → (∀ s : Nat, v < s → s < 2 ^ n → nxt (E0 3) (E0 4) (E 4) x s) → ∃ E', P_G_fillGap_9 Θ N K g (J x) q (HG Θ g E h) (J v) = K (HG Θ g E' h) ∧ (∀ a : Nat, a ≠ 4 → E' a = E0 a) ∧ (E' 4 0 = E0 4 0) ∧ (∀ s : Nat, 0 < s → s < 2 ^ n → nxt (E0 3) (E0 4) (E' 4) x s) := by
  intro v
  have t8 := two8 n8
  induction v with
  | zero =>
    intro q E hv hq h1 h2 h5
    obtain ⟨q, rfl⟩ : ∃ n', q = n' + 1 := ⟨q - 1, by omega⟩
    rw [E_G_fillGap_9, B_G_fillGap_9, if_pos (by decide)]
    exact ⟨E, rfl, h1, h2 0 (Nat.le_refl _), h5⟩
  | succ v ih =>
    intro q E hv hq h1 h2 h5
    obtain ⟨q, rfl⟩ : ∃ n', q = n' + 1 := ⟨q - 1, by omega⟩
    have sub : ∀ u : Nat, u &&& (v + 1) = u → u ≤ v + 1 := fun u hu => by rw [← hu]; exact Nat.and_le_right
    have b4 := h4 (v + 1) hv
    have e4 := h2 (v + 1) (Nat.le_refl _)
    obtain ⟨w, a1, a2, a3⟩ := c_fitsWith (E := E) (x := x) hN hb (s := v + 1) (by omega) hx (fun u hu => by rw [h1 3 (by omega)]; exact h3 u (by have := sub u hu; omega)) (fun u hu => by rw [h2 u (by omega)]; exact h4 u (by omega))
    rw [h1 3 (by omega)] at a3
    have a3' : w = 1 ↔ hasF (E0 3) (E0 4) x (v + 1) (v + 1) := a3.trans ⟨hasF_ext (fun y hy => h2 y (by omega)), hasF_ext (fun y hy => (h2 y (by omega)).symm)⟩
    have em : J ((v + 1 : Nat) : Int) + J (-1) = J (v : Int) := by rw [J_add, show ((v + 1 : Nat) : Int) + -1 = v by omega]
    have fin : ∀ y : Int, (y = 0 ∨ y = 1) → (y = 1 ↔ E0 4 ((v + 1 : Nat) : Int) = 1 ∨ hasF (E0 3) (E0 4) x (v + 1) (v + 1)) → ∃ E', P_G_fillGap_9 Θ N K g (J x) q (HG Θ g (up2 E 4 ((v + 1 : Nat) : Int) y) h) (J v) = K (HG Θ g E' h) ∧ (∀ a : Nat, a ≠ 4 → E' a = E0 a) ∧ (E' 4 0 = E0 4 0) ∧ (∀ s : Nat, 0 < s → s < 2 ^ n → nxt (E0 3) (E0 4) (E' 4) x s) := by
      intro y y1 y2
      refine ih q _ (by omega) (by omega) (fun a ha => by rw [up2_row ha]; exact h1 a ha) (fun s hs => by rw [up2_nj (by omega)]; exact h2 s (by omega)) (fun s s1 s2 => ?_)
      unfold nxt
      by_cases c : s = v + 1
      · subst c
        rw [up2_eq]
        exact ⟨y1, y2⟩
      · rw [up2_nj (by omega)]
        exact h5 s (by omega) s2
    rw [E_G_fillGap_9, B_G_fillGap_9, if_neg (by rw [J_0, J_le] <;> omega), gf_A5 hb, bo_some, bo_some, gf_a4 hb (by omega) (by omega), bo_some, jn_eq, jn_eq, e4]
    by_cases c : E0 4 ((v + 1 : Nat) : Int) = 0
    · rw [if_pos (by rw [c]; rfl), gf_O hb, a1, bc_some]
      rcases a2 with rfl | rfl
      · rw [if_pos (by rfl)]
        dsimp only
        rw [gf_w4 hb (by omega) (by omega) (by omega), bo_some, em]
        exact fin 0 (Or.inl rfl) ⟨fun z => by omega, fun z => z.elim (fun z => by omega) (fun z => by have := a3'.mpr z; omega)⟩
      · rw [if_neg (by decide)]
        dsimp only
        rw [gf_w4 hb (by omega) (by omega) (by omega), bo_some, em]
        exact fin 1 (Or.inr rfl) ⟨fun _ => Or.inr (a3'.mp rfl), fun _ => rfl⟩
    · rw [if_neg (by rw [J_0, J_eq] <;> omega)]
      dsimp only
      rw [gf_w4 hb (by omega) (by omega) (by omega), bo_some, em]
      exact fin 1 (Or.inr rfl) ⟨fun _ => Or.inl (by omega), fun _ => rfl⟩
theorem c_fillGap (hN : 2000 ≤ N) (hb : bOK Θ 5 g h) {n : Nat} (hn : E 0 3 = n) (n8 : n ≤ 8) {x : Int} (hx : 0 ≤ x ∧ x ≤ 60) {gs : List Int} (hf : ∀ q : Nat, q < 2 ^ n → E 3 q = MT (E 2) (tb q) n) (hl : ∀ k : Int, 0 ≤ k → k < n → 0 ≤ E 2 k ∧ E 2 k ≤ 60) (hg : ∀ y, y ∈ gs → 0 ≤ y) (ht : TB (E 2) n gs (E 4)) : ∃ E', P_G_fillGap Θ N (HG Θ g E h) g (J x) = some ((), HG Θ g E' h) ∧ (∀ a : Nat, a ≠ 4 → E' a = E a) ∧ TB (E 2) n (gs ++ [x]) (E' 4) := by
  have t8 := two8 n8
  unfold P_G_fillGap
  have b3 : ∀ q : Nat, q < 2 ^ n → 0 ≤ E 3 q ∧ E 3 q ≤ 10000 := fun q hq => by
    have b : ∀ j : Nat, j ≤ n → 0 ≤ MT (E 2) (tb q) j ∧ MT (E 2) (tb q) j ≤ 60 * j := by
      intro j
      induction j with
      | zero => intro _; simp [MT]
      | succ j ih =>
        intro hj
        have := ih (by omega)
        have := hl j (by omega) (by omega)
        rw [MT]
        split <;> omega
    have := b n (Nat.le_refl _)
    rw [hf q hq]
    omega
  obtain ⟨E', a1, a2, a3, a4⟩ := c_fillGap_L (Θ := Θ) (N := N) (E0 := E) (K := fun h13 => some ((), h13)) hN hb n8 hx b3 (fun q hq => (ht q hq).1) (2 ^ n - 1) N E (by omega) (by omega) (fun _ _ => rfl) (fun _ _ => rfl) (fun s s1 s2 => by omega)
  refine ⟨E', ?_, a2, TB_S hx.1 ht (fun s hs => ?_)⟩
  · rw [gf_I3 hb, bo_some, hn, J_shl' n8, J_sub, show ((2 ^ n : Nat) : Int) - 1 = ((2 ^ n - 1 : Nat) : Int) by omega]
    exact a1
  · by_cases c : s = 0
    · subst c
      have r0 := TB_row0 hg ht
      rw [show ((0 : Nat) : Int) = 0 from rfl, a3]
      exact ⟨Or.inr r0, fun _ => Or.inl r0, fun _ => r0⟩
    · have := a4 s (by omega) hs
      unfold nxt at this
      refine ⟨this.1, this.2.trans (or_congr Iff.rfl (hasF_ex.trans ⟨fun ⟨u, p1, p2, p3, p4⟩ => ⟨u, p1, p2, ?_, p4⟩, fun ⟨u, p1, p2, p3, p4⟩ => ⟨u, p1, p2, ?_, p4⟩⟩))⟩
      · have hu : u ≤ s := by rw [← p2]; exact Nat.and_le_right
        rw [← hf u (by omega)]
        exact p3
      · have hu : u ≤ s := by rw [← p2]; exact Nat.and_le_right
        rw [hf u (by omega)]
        exact p3
theorem c_fillAll_L (hN : 2000 ≤ N) (hb : bOK Θ 5 g h) {n m : Nat} (n8 : n ≤ 8) (m9 : m ≤ 9) {E0 : Nat → Int → Int} (hn : E0 0 3 = n) (hm : E0 0 1 = m) (hl : ∀ k : Int, 0 ≤ k → k < n → 0 ≤ E0 2 k ∧ E0 2 k ≤ 60) (hg : ∀ k : Int, 0 ≤ k → k < m → 0 ≤ E0 1 k ∧ E0 1 k ≤ 60) (hf : ∀ q : Nat, q < 2 ^ n → E0 3 q = MT (E0 2) (tb q) n) {K : mH → Option (Unit × mH)} : ∀ (r j q : Nat) (E : Nat → Int → Int), j + r = m → r < q → (∀ a : Nat, a ≠ 4 → E a = E0 a) → TB (E0 2) n (wl (E0 1) j 0) (E 4) → ∃ E', P_G_fillTable_46 Θ N K g q (HG Θ g E h) (J j) = K (HG Θ g E' h) ∧ (∀ a : Nat, a ≠ 4 → E' a = E0 a) ∧ TB (E0 2) n (wl (E0 1) m 0) (E' 4) := by
  intro r
  induction r with
  | zero =>
    intro j q E hj hq h1 h2
    obtain ⟨q, rfl⟩ : ∃ n', q = n' + 1 := ⟨q - 1, by omega⟩
    rw [E_G_fillTable_46, B_G_fillTable_46, gf_I1 hb, bo_some, h1 0 (by omega), hm, if_pos (by rw [J_le] <;> omega)]
    exact ⟨E, rfl, h1, by rwa [show m = j by omega]⟩
  | succ r ih =>
    intro j q E hj hq h1 h2
    obtain ⟨q, rfl⟩ : ∃ n', q = n' + 1 := ⟨q - 1, by omega⟩
    have e0 : E 0 = E0 0 := h1 0 (by omega)
    have e1 : E 1 = E0 1 := h1 1 (by omega)
    have e2 : E 2 = E0 2 := h1 2 (by omega)
    have e3 : E 3 = E0 3 := h1 3 (by omega)
    obtain ⟨E', a1, a2, a3⟩ := c_fillGap (E := E) (x := E0 1 j) (gs := wl (E0 1) j 0) hN hb (by rw [e0]; exact hn) n8 (hg j (by omega) (by omega)) (by rw [e2, e3]; exact hf) (by rw [e2]; exact hl) (fun y hy => by
      obtain ⟨k, k1, k2, k3⟩ := (wl_mem _ _).mp hy
      rw [← k3]
      exact (hg k k1 (by omega)).1) (by rw [e2]; exact h2)
    rw [E_G_fillTable_46, B_G_fillTable_46, gf_I1 hb, bo_some, e0, hm, if_neg (by rw [J_le] <;> omega), gf_A0 hb, bo_some, gf_a1 hb (by omega) (by omega), bo_some, e1, gf_O hb, a1, bc_some, J_add, show (j : Int) + 1 = ((j + 1 : Nat) : Int) by omega]
    refine ih (j + 1) q E' (by omega) (by omega) (fun a ha => by rw [a2 a ha]; exact h1 a ha) ?_
    rw [wl_snoc, show (0 : Int) + j = j by omega]
    rw [e2] at a3
    exact a3
theorem c_fillTable (hN : 2000 ≤ N) (hb : bOK Θ 5 g h) {n m : Nat} (n8 : n ≤ 8) (m9 : m ≤ 9) (hn : E 0 3 = n) (hm : E 0 1 = m) (hl : ∀ k : Int, 0 ≤ k → k < n → 0 ≤ E 2 k ∧ E 2 k ≤ 60) (hg : ∀ k : Int, 0 ≤ k → k < m → 0 ≤ E 1 k ∧ E 1 k ≤ 60) : ∃ E', P_G_fillTable Θ N (HG Θ g E h) g = some ((), HG Θ g E' h) ∧ (∀ a : Nat, a ≠ 3 → a ≠ 4 → E' a = E a) ∧ (∀ q : Nat, q < 2 ^ n → E' 3 q = MT (E 2) (tb q) n) ∧ TB (E 2) n (wl (E 1) m 0) (E' 4) := by
  have t8 := two8 n8
  unfold P_G_fillTable
  obtain ⟨E1, a1, a2, a3⟩ := c_fill0_L (Θ := Θ) (N := N) (E0 := E) (K := (fun h11 => (P_G_fillTable_46 Θ N (fun h17 => (some ((), h17))) g N h11 (J 0)))) hN hb n8 hn (2 ^ n) 0 N E (by omega) (by omega) (fun _ _ _ => rfl) (fun s hs => by omega)
  have e0 : E1 0 = E 0 := a2 0 (by omega) (by omega)
  have e1 : E1 1 = E 1 := a2 1 (by omega) (by omega)
  have e2 : E1 2 = E 2 := a2 2 (by omega) (by omega)
  obtain ⟨E2, b1, b2, b3⟩ := c_fillAll_L (Θ := Θ) (N := N) (E0 := E1) (K := fun h17 => some ((), h17)) hN hb n8 m9 (by rw [e0]; exact hn) (by rw [e0]; exact hm) (by rw [e2]; exact hl) (by rw [e1]; exact hg) (fun q hq => by rw [e2]; exact (a3 q hq).1) m 0 N E1 (by omega) (by omega) (fun _ _ => rfl) (by rw [e2]; exact TB_0 (fun s hs => (a3 s hs).2))
  refine ⟨E2, ?_, fun a x y => by rw [b2 a y]; exact a2 a x y, fun q hq => by rw [b2 3 (by omega)]; exact (a3 q hq).1, ?_⟩
  · refine (show _ = _ from a1).trans ?_
    exact b1
  · rw [e1, e2] at b3
    exact b3
end G3
