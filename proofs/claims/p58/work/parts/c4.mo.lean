/-! the law's packing: all ways tried -/
abbrev shI (n : Nat) : List Sh := [.inr (.inl (0, n))]
abbrev HI (Θ : mW) (m q : Nat) (D : Nat → Int → Int) (h : mH) : mH := BK Θ (shI m) q D h
/-- a row of ints -/
def AI (Θ : mW) (q n : Nat) (F : Int → Int) (h : mH) : Prop := HB Θ (shI n) q (fun _ => F) h
theorem BK_ext {Θ : mW} {S : List Sh} {b : Nat} {D D2 : Nat → Int → Int} {h : mH} (e : ∀ i, i < S.length → D i = D2 i) : BK Θ S b D h = BK Θ S b D2 h := by
  unfold BK
  congr 1
  funext i x
  split
  · rename_i c
    rw [e _ (by omega)]
  · rfl
section MO
variable {Θ : mW} {N q n m : Nat} {D : Nat → Int → Int} {F L : Int → Int} {h h2 : mH} {P : Nat → Prop} {y z : Nat}
theorem AI.r (a : AI Θ q n F h) (hn : n ≤ 1000) {x : Int} (h0 : 0 ≤ x) (h1 : x < n) : aR Θ h 0 q (J x) = some (J (F x)) := HB.xR a (i := 0) rfl (by omega) h0 h1
theorem AI.len (a : AI Θ q n F h) : aN Θ h q = some (J n) := HB.xN a (i := 0) rfl (by decide)
theorem AI.nx (a : AI Θ q n F h) (x : Nx Θ h h2 P y z) (hp : ¬ P q) : AI Θ q n F h2 := HB.nx a x (fun u u1 u2 p => by
  have : u = q := by simp at u2; omega
  rw [this] at p
  exact hp p)
theorem AI.w (a : AI Θ q n F h) (hn : n ≤ 1000) {x v : Int} (h0 : 0 ≤ x) (h1 : x < n) : ∃ h2, aW Θ h 0 q (J x) (J v) = some h2 ∧ AI Θ q n (up1 F x v) h2 ∧ Nx Θ h h2 (fun u => u = q) 0 0 := by
  refine ⟨_, HB.xW a (i := 0) rfl (by omega) h0 h1, ?_, (Nx.bk a).wid (fun u _ p => by simp at p; omega) (by omega) (by omega)⟩
  have e : BK Θ (shI n) q (up2 (fun _ => F) 0 x v) h = BK Θ (shI n) q (fun _ => up1 F x v) h := by
    refine BK_ext (fun i hi => ?_)
    have : i = 0 := by
      have : (shI n).length = 1 := rfl
      omega
    subst this
    rfl
  rw [e]
  exact HB.self a.1
theorem hi_r (hb : bOK Θ 1 q h) (hm : m ≤ 1000) {x : Int} (h0 : 0 ≤ x) (h1 : x < m) : aR Θ (HI Θ m q D h) 0 q (J x) = some (J (D 0 x)) := g_aR (i := 0) rfl (by omega) hb h0 h1
theorem hi_w (hb : bOK Θ 1 q h) (hm : m ≤ 1000) {x v : Int} (h0 : 0 ≤ x) (h1 : x < m) : aW Θ (HI Θ m q D h) 0 q (J x) (J v) = some (HI Θ m q (up2 D 0 x v) h) := g_aW (i := 0) rfl (by omega) hb h0 h1
/-- ships that fit alone, from the i-th on -/
def wz (L : Int → Int) : Nat → Int → List Int
  | 0, _ => []
  | r + 1, i => if 0 < L i then L i :: wz L r (i + 1) else wz L r (i + 1)
theorem wz_len : ∀ (r : Nat) (i : Int), (wz L r i).length ≤ r
  | 0, _ => by simp [wz]
  | r + 1, i => by
    have := wz_len r (i + 1)
    rw [wz]
    split
    · rw [List.length_cons]; omega
    · omega
/-- what is counted: ships, or metres -/
def pj (b c m : Int) : Int := if b = 0 then c else m
def isB (b : Int) (ws gs : List Int) (v : Int) : Prop := (∃ c m, ach ws gs c m ∧ pj b c m = v) ∧ ∀ c m, ach ws gs c m → pj b c m ≤ v
theorem isB_0 {ws gs : List Int} {v : Int} (h : isB 0 ws gs v) : isC ws gs v := by
  obtain ⟨⟨c, m, a, e⟩, g⟩ := h
  have e' : c = v := e
  exact ⟨⟨m, by rw [← e']; exact a⟩, fun c m x => g c m x⟩
theorem isB_1 {ws gs : List Int} {v : Int} (h : isB 1 ws gs v) : isM ws gs v := by
  obtain ⟨⟨c, m, a, e⟩, g⟩ := h
  have e' : m = v := e
  exact ⟨⟨c, by rw [← e']; exact a⟩, fun c m x => g c m x⟩
theorem ach_m : ∀ (ws gs : List Int) (c m : Int), (∀ w, w ∈ ws → 0 ≤ w ∧ w ≤ 60) → ach ws gs c m → 0 ≤ m ∧ m ≤ 60 * ws.length
  | [], gs, c, m, _, h => by
    have := h.2
    rw [this]
    simp
  | w :: ws, gs, c, m, hw, h => by
    have hw' : ∀ x, x ∈ ws → 0 ≤ x ∧ x ≤ 60 := fun x hx => hw x (List.mem_cons_of_mem _ hx)
    have h0 := hw w List.mem_cons_self
    rw [List.length_cons]
    rcases h with h | ⟨x, hx, h⟩
    · have := ach_m ws gs c m hw' h
      omega
    · have := ach_m ws x _ _ hw' h
      omega
theorem wz_mem {w : Int} : ∀ (r : Nat) (i : Int), w ∈ wz L r i → ∃ j : Int, i ≤ j ∧ j < i + r ∧ L j = w ∧ 0 < w
  | 0, i, h => by cases h
  | r + 1, i, h => by
    rw [wz] at h
    split at h
    · rename_i c
      rcases List.mem_cons.mp h with e | h
      · exact ⟨i, by omega, by omega, e.symm, by omega⟩
      · obtain ⟨j, a, b, e⟩ := wz_mem r (i + 1) h
        exact ⟨j, by omega, by omega, e⟩
    · obtain ⟨j, a, b, e⟩ := wz_mem r (i + 1) h
      exact ⟨j, by omega, by omega, e⟩
theorem pj_rng {b c m : Int} {r : Nat} {i : Int} {gs : List Int} (hl : ∀ k : Int, i ≤ k → k < i + r → L k ≤ 60) (hr : r ≤ 8) (h : ach (wz L r i) gs c m) : 0 ≤ pj b c m ∧ pj b c m ≤ 480 := by
  have a := ach_rng _ _ _ _ h
  have l := wz_len (L := L) r i
  have d := ach_m _ _ _ _ (fun w hw => by
    obtain ⟨j, a, b, e, p⟩ := wz_mem r i hw
    have := hl j a b
    omega) h
  unfold pj
  split <;> omega
theorem most_L {a0 ql : Nat} {b : Int} (hb01 : b = 0 ∨ b = 1) (hb : bOK Θ 1 q h) (ha : AI Θ ql n L h) (hq : ql ≠ q) {i : Nat} (n8 : n ≤ 8) (m9 : m ≤ 61) (hi : i < n) (hl : ∀ k : Int, 0 ≤ k → k < n → 0 ≤ L k ∧ L k ≤ 60) (hg : ∀ k : Int, 0 ≤ k → k < m → 0 ≤ D 0 k ∧ D 0 k ≤ 60) {rec : mH → Nat → Nat → Int32 → Nat → Int32 → Int32 → Option (Int32 × mH)}
    (hrec : ∀ k : Int, 0 ≤ k → k < m → L i ≤ D 0 k → ∃ v, rec (HI Θ 61 q (up2 D 0 k (D 0 k - L i)) h) a0 ql (J ((i : Int) + 1)) q (J m) (J b) = some (J v, HI Θ 61 q (up2 D 0 k (D 0 k - L i)) h) ∧ isB b (wz L (n - i - 1) ((i : Int) + 1)) (wl (up1 (D 0) k (D 0 k - L i)) m 0) v) (hp : 0 < L i)
    {K : mH → Int32 → Option (Int32 × mH)} : ∀ (r j w : Nat) (v : Int), j + r = m → r < w → (∃ c y, ach (L i :: wz L (n - i - 1) ((i : Int) + 1)) (wl (D 0) m 0) c y ∧ pj b c y = v) → (∀ c y, ach (wz L (n - i - 1) ((i : Int) + 1)) (wl (D 0) m 0) c y → pj b c y ≤ v) → (∀ k : Int, 0 ≤ k → k < j → L i ≤ D 0 k → ∀ c y, ach (wz L (n - i - 1) ((i : Int) + 1)) (wl (up1 (D 0) k (D 0 k - L i)) m 0) c y → pj b (c + 1) (y + L i) ≤ v) → ∃ u, P_W_most_26 Θ N K rec a0 ql (J i) q (J m) (J b) w (HI Θ 61 q D h) (J v) (J j) = K (HI Θ 61 q D h) (J u) ∧ isB b (L i :: wz L (n - i - 1) ((i : Int) + 1)) (wl (D 0) m 0) u := by
  intro r
  have hi' := hl i (by omega) (by omega)
  have hl2 : ∀ k : Int, ((i : Int) + 1) ≤ k → k < ((i : Int) + 1) + ((n - i - 1 : Nat) : Int) → L k ≤ 60 := fun k k1 k2 => (hl k (by omega) (by omega)).2
  have aI : ∀ D' : Nat → Int → Int, aR Θ (HI Θ 61 q D' h) 0 ql (J i) = some (J (L i)) := fun D' => AI.r (HB.other (L := shI n) (L2 := shI 61) (D2 := D') ha hb (by simp; omega)) (by omega) (by omega) (by omega)
  induction r with
  | zero =>
    intro j w v hj hw h1 h2 h3
    obtain ⟨w, rfl⟩ : ∃ n', w = n' + 1 := ⟨w - 1, by omega⟩
    rw [E_W_most_26, B_W_most_26, if_pos (by rw [J_le] <;> omega)]
    refine ⟨v, rfl, h1, fun c y hc => ?_⟩
    rcases hc with hc | ⟨x, hx, hc⟩
    · exact h2 c y hc
    · obtain ⟨k, k1, k2, k3, rfl⟩ := (tk_wl m 0).mp hx
      have := h3 k k1 (by omega) k3 _ _ hc
      rwa [show c - 1 + 1 = c by omega, show y - L i + L i = y by omega] at this
  | succ r ih =>
    intro j w v hj hw h1 h2 h3
    obtain ⟨w, rfl⟩ : ∃ n', w = n' + 1 := ⟨w - 1, by omega⟩
    have hgj := hg j (by omega) (by omega)
    have hv : 0 ≤ v ∧ v ≤ 600 := by
      obtain ⟨c, y, hy, e⟩ := h1
      rcases hy with hy | ⟨x, hx, hy⟩
      · have := pj_rng (b := b) hl2 (by omega) hy
        omega
      · have a := pj_rng (b := 0) hl2 (by omega) hy
        have d := pj_rng (b := 1) hl2 (by omega) hy
        unfold pj at a d e
        rw [if_pos rfl] at a
        rw [if_neg (by omega)] at d
        rcases hb01 with rfl | rfl
        · rw [if_pos rfl] at e; omega
        · rw [if_neg (by omega)] at e; omega
    have e1 : ((j + 1 : Nat) : Int) = (j : Int) + 1 := by omega
    rw [E_W_most_26, B_W_most_26, if_neg (by rw [J_le] <;> omega), aI, bo_some, jn_eq, if_neg (by rw [J_le0] <;> omega), hi_r hb (by omega) (by omega) (by omega), bo_some, bo_some]
    by_cases c : D 0 j < L i
    · rw [if_pos (by rw [J_lt] <;> omega)]
      dsimp only
      rw [J_add, ← e1]
      refine ih (j + 1) w v (by omega) (by omega) h1 h2 (fun k k1 k2 k3 => ?_)
      by_cases d : k = j
      · rw [d] at k3
        omega
      · exact h3 k k1 (by omega) k3
    · obtain ⟨u, p1, p2⟩ := hrec j (by omega) (by omega) (by omega)
      have hu : 0 ≤ u ∧ u ≤ 480 := by
        obtain ⟨c, y, hy, e⟩ := p2.1
        have := pj_rng (b := b) hl2 (by omega) hy
        omega
      have key : ∃ s : Int, (s = if b = 0 then 1 else L i) ∧ ∀ F : mH → Int32 → Option (Int32 × mH), jn F (fun j13 => if J b = 0 then j13 (HI Θ 61 q (up2 D 0 j (D 0 j - L i)) h) (J 1) else bo (aR Θ (HI Θ 61 q (up2 D 0 j (D 0 j - L i)) h) 0 ql (J i)) (fun v21 => j13 (HI Θ 61 q (up2 D 0 j (D 0 j - L i)) h) v21)) = F (HI Θ 61 q (up2 D 0 j (D 0 j - L i)) h) (J s) := by
        rcases hb01 with rfl | rfl
        · exact ⟨1, by rw [if_pos rfl], fun F => by rw [jn_eq, if_pos (show J 0 = (0 : Int32) from rfl)]⟩
        · exact ⟨L i, by rw [if_neg (by omega)], fun F => by rw [jn_eq, if_neg (show ¬ J 1 = (0 : Int32) by decide), aI, bo_some]⟩
      obtain ⟨s, s1, s2⟩ := key
      rw [if_neg (by rw [J_lt] <;> omega), bo_some, bo_some, J_sub, hi_w hb (by omega) (by omega) (by omega), bo_some, s2, J_add, p1, bc_some, hi_r hb (by omega) (by omega) (by omega), bo_some, aI, bo_some, up2_eq, J_add, hi_w hb (by omega) (by omega) (by omega), bo_some, up2_2, show D 0 j - L i + L i = D 0 j by omega, up2_self]
      dsimp only
      have hs : 0 ≤ s ∧ s ≤ 60 := by
        rw [s1]
        split <;> omega
      have spj : ∀ c y : Int, pj b (c + 1) (y + L i) = pj b c y + s := fun c y => by
        unfold pj
        rw [s1]
        split <;> rfl
      rw [J_add, J_mx (by omega) (by omega) (by omega) (by omega), J_add, ← e1]
      refine ih (j + 1) w (max v (s + u)) (by omega) (by omega) ?_ (fun c y hc => ?_) (fun k k1 k2 k3 c y hc => ?_)
      · by_cases d : v < s + u
        · rw [Int.max_eq_right (by omega)]
          obtain ⟨c, y, hy, e⟩ := p2.1
          refine ⟨c + 1, y + L i, Or.inr ⟨_, (tk_wl m 0).mpr ⟨j, by omega, by omega, by omega, rfl⟩, ?_⟩, ?_⟩
          · rw [show c + 1 - 1 = c by omega, show y + L i - L i = y by omega]
            exact hy
          · rw [spj]; omega
        · rw [Int.max_eq_left (by omega)]
          exact h1
      · have := h2 c y hc
        omega
      · by_cases d : k = j
        · rw [d] at hc
          have := p2.2 _ _ hc
          rw [spj]
          omega
        · have := h3 k k1 (by omega) k3 c y hc
          omega
theorem most_0 {a0 ql : Nat} {b : Int} (hb : bOK Θ 1 q h) (ha : AI Θ ql n L h) (hq : ql ≠ q) {i : Nat} (n8 : n ≤ 8) (m9 : m ≤ 61) (hi : i < n) (hl : ∀ k : Int, 0 ≤ k → k < n → 0 ≤ L k ∧ L k ≤ 60) {rec : mH → Nat → Nat → Int32 → Nat → Int32 → Int32 → Option (Int32 × mH)} (hp : ¬ 0 < L i) {v : Int} {K : mH → Int32 → Option (Int32 × mH)} : ∀ (r j w : Nat), j + r = m → r < w → P_W_most_26 Θ N K rec a0 ql (J i) q (J m) (J b) w (HI Θ 61 q D h) (J v) (J j) = K (HI Θ 61 q D h) (J v) := by
  intro r
  have hi' := hl i (by omega) (by omega)
  have aI : aR Θ (HI Θ 61 q D h) 0 ql (J i) = some (J (L i)) := AI.r (HB.other (L := shI n) (L2 := shI 61) (D2 := D) ha hb (by simp; omega)) (by omega) (by omega) (by omega)
  induction r with
  | zero =>
    intro j w hj hw
    obtain ⟨w, rfl⟩ : ∃ n', w = n' + 1 := ⟨w - 1, by omega⟩
    rw [E_W_most_26, B_W_most_26, if_pos (by rw [J_le] <;> omega)]
  | succ r ih =>
    intro j w hj hw
    obtain ⟨w, rfl⟩ : ∃ n', w = n' + 1 := ⟨w - 1, by omega⟩
    have e1 : ((j + 1 : Nat) : Int) = (j : Int) + 1 := by omega
    rw [E_W_most_26, B_W_most_26, if_neg (by rw [J_le] <;> omega), aI, bo_some, jn_eq, if_pos (by rw [J_le0] <;> omega)]
    dsimp only
    rw [J_add, ← e1]
    exact ih (j + 1) w (by omega) (by omega)
theorem w_most (hN : 2000 ≤ N) {a0 ql : Nat} {b : Int} (hb01 : b = 0 ∨ b = 1) (hb : bOK Θ 1 q h) (ha : AI Θ ql n L h) (hq : ql ≠ q) (n8 : n ≤ 8) (m9 : m ≤ 61) (hl : ∀ k : Int, 0 ≤ k → k < n → 0 ≤ L k ∧ L k ≤ 60) : ∀ (w i : Nat) (D : Nat → Int → Int), (∀ k : Int, 0 ≤ k → k < m → 0 ≤ D 0 k ∧ D 0 k ≤ 60) → i ≤ n → n - i < w → ∃ v, P_W_most Θ N w (HI Θ 61 q D h) a0 ql (J i) q (J m) (J b) = some (J v, HI Θ 61 q D h) ∧ isB b (wz L (n - i) i) (wl (D 0) m 0) v := by
  intro w
  induction w with
  | zero => intro i D _ _ hf; omega
  | succ w ih =>
    intro i D hg hi hf
    have aN' : aN Θ (HI Θ 61 q D h) ql = some (J n) := AI.len (HB.other (L := shI n) (L2 := shI 61) (D2 := D) ha hb (by simp; omega))
    rw [E_W_most, R_W_most, aN', bo_some]
    by_cases c : i = n
    · rw [if_pos (by rw [c]), show n - i = 0 by omega]
      refine ⟨0, rfl, ⟨0, 0, ⟨rfl, rfl⟩, ?_⟩, fun c y hc => ?_⟩
      · unfold pj; split <;> rfl
      · obtain ⟨rfl, rfl⟩ := hc
        unfold pj
        split <;> omega
    · have e1 : ((i + 1 : Nat) : Int) = (i : Int) + 1 := by omega
      obtain ⟨v0, p1, p2⟩ := ih (i + 1) D hg (by omega) (by omega)
      rw [e1] at p1 p2
      rw [show n - (i + 1) = n - i - 1 by omega] at p2
      rw [if_neg (by rw [J_eq] <;> omega), J_add, p1, bc_some]
      rw [show n - i = (n - i - 1) + 1 by omega, wz]
      by_cases hp : 0 < L i
      · have hrec : ∀ k : Int, 0 ≤ k → k < m → L i ≤ D 0 k → ∃ v, P_W_most Θ N w (HI Θ 61 q (up2 D 0 k (D 0 k - L i)) h) a0 ql (J ((i : Int) + 1)) q (J m) (J b) = some (J v, HI Θ 61 q (up2 D 0 k (D 0 k - L i)) h) ∧ isB b (wz L (n - i - 1) ((i : Int) + 1)) (wl (up1 (D 0) k (D 0 k - L i)) m 0) v := by
          intro k k1 k2 k3
          have hk := hg k k1 k2
          obtain ⟨v, a1, a2⟩ := ih (i + 1) (up2 D 0 k (D 0 k - L i)) (fun x x1 x2 => by
            rw [up2_at]
            split
            · omega
            · exact hg x x1 x2) (by omega) (by omega)
          rw [e1] at a1 a2
          rw [show n - (i + 1) = n - i - 1 by omega] at a2
          have e3 : up2 D 0 k (D 0 k - L i) 0 = up1 (D 0) k (D 0 k - L i) := by
            funext x
            rw [up2_at]
            unfold up1
            simp
          rw [e3] at a2
          exact ⟨v, a1, a2⟩
        rw [if_pos hp]
        obtain ⟨u, a1, a2⟩ := most_L (Θ := Θ) (N := N) (D := D) (K := fun h22 u23 => some (u23, h22)) hb01 hb ha hq (i := i) n8 m9 (by omega) hl hg hrec hp m 0 N v0 (by omega) (by omega) (by
          obtain ⟨c, y, hy, e⟩ := p2.1
          exact ⟨c, y, Or.inl hy, e⟩) p2.2 (fun k k1 k2 => by omega)
        exact ⟨u, a1, a2⟩
      · rw [if_neg hp]
        exact ⟨v0, most_0 (Θ := Θ) (N := N) (D := D) (K := fun h22 u23 => some (u23, h22)) hb ha hq (i := i) n8 m9 (by omega) hl hp m 0 N (by omega) (by omega), p2⟩
end MO
