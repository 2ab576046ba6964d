/-! no machine here: hours that pass, levels, gaps by runs, ranks -/
section PU
variable {c : Int} {V W : Int → Int}
theorem spV_fd {w k i : Int} (hk : 0 ≤ k) (hi : i = 0 ∨ i = 1 ∨ i = 2 ∨ i = 4 ∨ i = 5) : fd (spV V w).2 k i = fd V k i := by
  have h : 0 ≤ i ∧ i ≤ 8 := by omega
  unfold spV
  split
  · rw [fd_up (by omega) h, if_neg (by omega), chg_fd hk h, if_neg (by omega)]
  · split
    · rw [fd_up (by omega) h, if_neg (by omega), chg_fd hk h, if_neg (by omega)]
    · split
      · rw [chg_fd hk h, if_neg (by omega), fd_up (by omega) h, if_neg (by omega), chg_fd hk h, if_neg (by omega)]
      · rw [chg_fd hk h, if_neg (by omega), fd_up (by omega) h, if_neg (by omega), chg_fd hk h, if_neg (by omega)]
theorem wtI_fd {k i : Int} (hk : 0 ≤ k) (hi : i = 0 ∨ i = 1 ∨ i = 2 ∨ i = 4 ∨ i = 5) : ∀ (r : Nat) (a : Int) (V : Int → Int) (j : Int), fd (wtI r a V j).2 k i = fd V k i
  | 0, a, V, j => rfl
  | r + 1, a, V, j => by
    rw [wtI]
    split
    · rw [wtI_fd hk hi r, spV_fd hk hi]
    · rw [wtI_fd hk hi r]
/-- one hour -/
def hoV (V : Int → Int) : Int → Int := (wtI (mny V) 0 (hrV V) 0).2
theorem wtO_1 : (wtO 1 0 V).2 = hoV V := rfl
theorem hrV_fd {k i : Int} (hk : 0 ≤ k) (hi : 0 ≤ i) : fd (hrV V) k i = fd V k i := by
  unfold hrV
  rw [fd_up6 hk hi (by omega), fd_up6 hk hi (by omega)]
theorem hoV_fd {k i : Int} (hk : 0 ≤ k) (hi : i = 0 ∨ i = 1 ∨ i = 2 ∨ i = 4 ∨ i = 5) : fd (hoV V) k i = fd V k i := by
  unfold hoV
  rw [wtI_fd hk hi, hrV_fd hk (by omega)]
theorem lvl_cong {l t : Int} (e2 : W 2 = V 2) (e3 : W 3 = V 3) : lvl W l t = lvl V l t := by
  unfold lvl
  rw [e2, e3]
theorem hoV_lo (I : In c V) (c0 : 0 ≤ c) (c1 : c ≤ 2000) : hoV V 0 = V 0 + 1 ∧ hoV V 1 = lvl V (V 1) (V 0 + 1) ∧ hoV V 2 = V 2 ∧ hoV V 3 = V 3 ∧ hoV V 4 = V 4 := by
  obtain ⟨a1, a2, a3⟩ := hrV_inv I (by omega)
  have h4 := I.h4
  have e : (mny V : Int) = V 4 := by unfold mny; omega
  have b := (wtI_inv (mny V) (11904 * c) (hrV V) 0 0 a1 (by omega) (by omega) (by omega)).2
  unfold hoV
  refine ⟨?_, ?_, ?_, ?_, ?_⟩
  · rw [b 0 (by omega), a3]
  · rw [b 1 (by omega)]
    unfold hrV
    rw [up1_eq]
    exact lvl_cong (up1_nj (by omega)) (up1_nj (by omega))
  · rw [b 2 (by omega)]
    unfold hrV
    rw [up1_nj (by omega), up1_nj (by omega)]
  · rw [b 3 (by omega)]
    unfold hrV
    rw [up1_nj (by omega), up1_nj (by omega)]
  · rw [b 4 (by omega), a2]
theorem hoV_in (I : In c V) (c0 : 0 ≤ c) (c1 : c ≤ 2000) : In (c + 1) (hoV V) := by
  have o := (wtO_inv 1 (11904 * c) (48 * c + 3) V 0 I (by omega) (by omega)).1
  rw [wtO_1] at o
  exact o.mono (by omega) (by omega) (by omega)
def hoN (V : Int → Int) : Nat → Int → Int
  | 0 => V
  | n + 1 => hoV (hoN V n)
theorem hoN_in (I : In c V) (c0 : 0 ≤ c) : ∀ n : Nat, c + n ≤ 2000 → In (c + n) (hoN V n)
  | 0, _ => by rw [show c + ((0 : Nat) : Int) = c by omega]; exact I
  | n + 1, h => by
    have := hoV_in (hoN_in I c0 n (by omega)) (by omega) (by omega)
    rw [show c + ((n + 1 : Nat) : Int) = c + n + 1 by omega]
    exact this
theorem hoN_fd {k i : Int} (hk : 0 ≤ k) (hi : i = 0 ∨ i = 1 ∨ i = 2 ∨ i = 4 ∨ i = 5) : ∀ n : Nat, fd (hoN V n) k i = fd V k i
  | 0 => rfl
  | n + 1 => by rw [hoN, hoV_fd hk hi, hoN_fd hk hi n]
theorem hoN_at (I : In c V) (c0 : 0 ≤ c) : ∀ n : Nat, c + n ≤ 2000 → hoN V n 0 = V 0 + n ∧ hoN V n 1 = lva V n ∧ hoN V n 2 = V 2 ∧ hoN V n 3 = V 3 ∧ hoN V n 4 = V 4
  | 0, _ => ⟨by rw [hoN]; omega, rfl, rfl, rfl, rfl⟩
  | n + 1, h => by
    obtain ⟨a0, a1, a2, a3, a4⟩ := hoN_at I c0 n (by omega)
    obtain ⟨b0, b1, b2, b3, b4⟩ := hoV_lo (hoN_in I c0 n (by omega)) (by omega) (by omega)
    refine ⟨?_, ?_, b2.trans a2, b3.trans a3, b4.trans a4⟩
    · rw [hoN, b0, a0]; omega
    · rw [hoN, b1, a0, a1, lva, lvl_cong a2 a3]
      exact congrArg (lvl V (lva V n)) (by omega)
theorem fnd_cong {id : Int} : ∀ n : Nat, (∀ k : Nat, k < n → fd W k 0 = fd V k 0) → fnd W id n = fnd V id n
  | 0, _ => rfl
  | n + 1, h => by rw [fnd, fnd, h n (by omega), fnd_cong n (fun k hk => h k (by omega))]
/-! hours until afloat: how the law finds them -/
def flo (V : Int → Int) (w : Int) : Nat → Int
  | 0 => -2005
  | t + 1 => if flo V w t = -2005 ∧ fd V w 2 ≤ lva V (t + 1) then t + 1 else flo V w t
theorem flo_stay {w : Int} {t : Nat} (h : flo V w t ≠ -2005) : ∀ s : Nat, flo V w (t + s) = flo V w t
  | 0 => rfl
  | s + 1 => by
    rw [show t + (s + 1) = (t + s) + 1 by omega, flo, flo_stay h s, if_neg (fun q => h q.1)]
theorem flo_hgo {w : Int} : ∀ (r k : Nat), flo V w k = -2005 → flo V w (k + r) = if hgo V w r (k + 1) = -1 then -2005 else hgo V w r (k + 1)
  | 0, k, h => by rw [hgo, if_pos rfl]; exact h
  | r + 1, k, h => by
    rw [hgo]
    by_cases cc : fd V w 2 ≤ lva V (k + 1)
    · have e : flo V w (k + 1) = k + 1 := by rw [flo, if_pos ⟨h, cc⟩]
      rw [if_pos cc, show k + (r + 1) = (k + 1) + r by omega, flo_stay (by rw [e]; omega), e, if_neg (by omega)]
      omega
    · have e : flo V w (k + 1) = -2005 := by rw [flo, if_neg (fun q => cc q.2)]; exact h
      rw [if_neg cc, show k + (r + 1) = (k + 1) + r by omega, flo_hgo r (k + 1) e]
/-! gaps, found by runs of free metres -/
def rn (V : Int → Int) : Nat → Int
  | 0 => 0
  | p + 1 => if at' V p = -1 then rn V p + 1 else 0
theorem rn_0 : ∀ p : Nat, 0 ≤ rn V p ∧ rn V p ≤ p
  | 0 => by simp [rn]
  | p + 1 => by
    have := rn_0 p
    rw [rn]
    split <;> omega
theorem rn_iff : ∀ (p : Nat) (l : Int), 0 ≤ l → (l ≤ rn V p ↔ l ≤ p ∧ ∀ q : Int, p - l ≤ q → q < p → at' V q = -1)
  | 0, l, h => by
    rw [rn]
    constructor
    · intro a; exact ⟨by omega, fun q q1 q2 => by omega⟩
    · intro a; exact a.1
  | p + 1, l, h => by
    rw [rn]
    by_cases cc : at' V p = -1
    · rw [if_pos cc]
      by_cases l0 : l = 0
      · have := rn_0 (V := V) p
        constructor
        · intro _; exact ⟨by omega, fun q q1 q2 => by omega⟩
        · intro _; omega
      · have ih := rn_iff p (l - 1) (by omega)
        constructor
        · intro a
          have b := ih.mp (by omega)
          refine ⟨by omega, fun q q1 q2 => ?_⟩
          by_cases e : q = p
          · rw [e]; exact cc
          · exact b.2 q (by omega) (by omega)
        · intro a
          have b := ih.mpr ⟨by omega, fun q q1 q2 => a.2 q (by omega) (by omega)⟩
          omega
    · rw [if_neg cc]
      constructor
      · intro a; exact ⟨by omega, fun q q1 q2 => by omega⟩
      · intro a
        by_cases l0 : l = 0
        · omega
        · exact (cc (a.2 p (by omega) (by omega))).elim
theorem rn_fre {p : Nat} {l : Int} (h : 0 ≤ l) : l ≤ rn V p ↔ l ≤ p ∧ fre V (p - l) l.toNat = 1 := by
  rw [rn_iff p l h, fre_iff]
  constructor
  · rintro ⟨a, b⟩
    exact ⟨a, fun j hj => b _ (by omega) (by omega)⟩
  · rintro ⟨a, b⟩
    refine ⟨a, fun q q1 q2 => ?_⟩
    have := b (q - (p - l)).toNat (by omega)
    rwa [show (p : Int) - l + ((q - (p - l)).toNat : Int) = q by omega] at this
/-- the law's search -/
def lgp (V : Int → Int) (l : Int) : Nat → Nat → Int
  | 0, _ => -2004
  | r + 1, p => if rn V (p + 1) = l then p - l + 1 else lgp V l r (p + 1)
theorem lgp_spec {l : Int} : ∀ (r p : Nat), (lgp V l r p = -2004 ∧ ∀ q : Nat, p < q → q ≤ p + r → rn V q ≠ l) ∨ ∃ q : Nat, p < q ∧ q ≤ p + r ∧ lgp V l r p = q - l ∧ rn V q = l ∧ ∀ q' : Nat, p < q' → q' < q → rn V q' ≠ l
  | 0, p => Or.inl ⟨rfl, fun q a b => by omega⟩
  | r + 1, p => by
    rw [lgp]
    by_cases cc : rn V (p + 1) = l
    · rw [if_pos cc]
      exact Or.inr ⟨p + 1, by omega, by omega, by omega, cc, fun q' a b => by omega⟩
    · rw [if_neg cc]
      rcases lgp_spec r (p + 1) with ⟨a, b⟩ | ⟨q, a, b, e, f, g⟩
      · refine Or.inl ⟨a, fun q x y => ?_⟩
        by_cases z : q = p + 1
        · rw [z]; exact cc
        · exact b q (by omega) (by omega)
      · refine Or.inr ⟨q, by omega, by omega, e, f, fun q' x y => ?_⟩
        by_cases z : q' = p + 1
        · rw [z]; exact cc
        · exact g q' (by omega) y
theorem gpf_spec {l : Int} (hl : 1 ≤ l) : ∀ (n : Nat) (a : Int), (gpf V l n a = -1 ∧ ∀ b : Int, a ≤ b → b < a + n → b + l ≤ 60 → fre V b l.toNat ≠ 1) ∨ (a ≤ gpf V l n a ∧ gpf V l n a + l ≤ 60 ∧ fre V (gpf V l n a) l.toNat = 1 ∧ ∀ b : Int, a ≤ b → b < gpf V l n a → fre V b l.toNat ≠ 1)
  | 0, a => Or.inl ⟨rfl, fun b x y => by omega⟩
  | n + 1, a => by
    rw [gpf]
    by_cases c1 : 60 < a + l
    · rw [if_pos c1]
      exact Or.inl ⟨rfl, fun b x y z => by omega⟩
    · rw [if_neg c1]
      by_cases c2 : fre V a l.toNat = 1
      · rw [if_pos c2]
        exact Or.inr ⟨by omega, by omega, c2, fun b x y => by omega⟩
      · rw [if_neg c2]
        rcases gpf_spec hl n (a + 1) with ⟨x, y⟩ | ⟨x, y, z, u⟩
        · refine Or.inl ⟨x, fun b p q r => ?_⟩
          by_cases e : b = a
          · rw [e]; exact c2
          · exact y b (by omega) (by omega) r
        · refine Or.inr ⟨by omega, y, z, fun b p q => ?_⟩
          by_cases e : b = a
          · rw [e]; exact c2
          · exact u b (by omega) q
theorem rn_lt {l : Int} (hl : 1 ≤ l) {m : Nat} (h : ∀ q : Nat, 0 < q → q < m → rn V q ≠ l) : ∀ q : Nat, q < m → rn V q < l
  | 0, _ => by rw [rn]; omega
  | q + 1, hq => by
    have a := rn_lt hl h q (by omega)
    have b := h (q + 1) (by omega) hq
    rw [rn] at b ⊢
    split at b
    · rename_i z
      rw [if_pos z]; omega
    · rename_i z
      rw [if_neg z]; omega
theorem lgp_gpf {l : Int} (h1 : 1 ≤ l) (h2 : l ≤ 60) : lgp V l 60 0 = if gpf V l (62 - l).toNat 0 = -1 then -2004 else gpf V l (62 - l).toNat 0 := by
  rcases lgp_spec (V := V) (l := l) 60 0 with ⟨a, b⟩ | ⟨q, a, b, e, f, g⟩
  · have r := rn_lt (V := V) h1 (m := 61) (fun q x y => b q x (by omega))
    rcases gpf_spec (V := V) h1 (62 - l).toNat 0 with ⟨x, y⟩ | ⟨x, y, z, u⟩
    · rw [a, if_pos x]
    · exfalso
      have := (rn_fre (V := V) (p := (gpf V l (62 - l).toNat 0 + l).toNat) (l := l) (by omega)).mpr ⟨by omega, by rwa [show (((gpf V l (62 - l).toNat 0 + l).toNat : Nat) : Int) - l = gpf V l (62 - l).toNat 0 by omega]⟩
      have r2 := r (gpf V l (62 - l).toNat 0 + l).toNat (by omega)
      omega
  · have r := rn_lt (V := V) h1 (m := q) (fun q' x y => g q' x y)
    have fq := (rn_fre (V := V) (p := q) (l := l) (by omega)).mp (by omega)
    rcases gpf_spec (V := V) h1 (62 - l).toNat 0 with ⟨x, y⟩ | ⟨x, y, z, u⟩
    · exact (y (q - l) (by omega) (by omega) (by omega) fq.2).elim
    · rw [if_neg (by omega), e]
      by_cases lt : gpf V l (62 - l).toNat 0 < q - l
      · exfalso
        have := (rn_fre (V := V) (p := (gpf V l (62 - l).toNat 0 + l).toNat) (l := l) (by omega)).mpr ⟨by omega, by rwa [show (((gpf V l (62 - l).toNat 0 + l).toNat : Nat) : Int) - l = gpf V l (62 - l).toNat 0 by omega]⟩
        have r2 := r (gpf V l (62 - l).toNat 0 + l).toNat (by omega)
        omega
      · by_cases gt : q - l < gpf V l (62 - l).toNat 0
        · exact (u (q - l) (by omega) gt fq.2).elim
        · omega
/-! ranks: each is taken -/
def cle (f : Int → Int) (n : Nat) (m : Int) : Int := cnt (fun a => decide (f a < m)) n
theorem cnt_add {p q r : Int → Bool} : ∀ n : Nat, (∀ a : Nat, a < n → (if r a = true then (1 : Int) else 0) = (if p a = true then 1 else 0) + (if q a = true then 1 else 0)) → cnt r n = cnt p n + cnt q n
  | 0, _ => by simp [cnt]
  | n + 1, h => by
    have := h n (by omega)
    rw [cnt, cnt, cnt, cnt_add n (fun a ha => h a (by omega))]
    omega
theorem cnt_one {f : Int → Int} {m : Int} : ∀ n : Nat, (∀ a b : Nat, a < n → b < n → f a = f b → a = b) → cnt (fun a => decide (f a = m)) n ≤ 1 ∧ ((∀ a : Nat, a < n → f a ≠ m) → cnt (fun a => decide (f a = m)) n = 0)
  | 0, _ => by simp [cnt]
  | n + 1, h => by
    obtain ⟨i1, i2⟩ := cnt_one (f := f) (m := m) n (fun a b ha hb e => h a b (by omega) (by omega) e)
    rw [cnt]
    by_cases z : f n = m
    · have e0 := i2 (fun a ha e => by have := h a n (by omega) (by omega) (e.trans z.symm); omega)
      rw [e0]
      refine ⟨by simp [z], fun q => (q n (by omega) z).elim⟩
    · simp only [z, decide_false, Bool.false_eq_true, if_false]
      exact ⟨by omega, fun q => by have := i2 (fun a ha => q a (by omega)); omega⟩
theorem cnt_all {p : Int → Bool} : ∀ n : Nat, (∀ a : Nat, a < n → p a = true) → cnt p n = n
  | 0, _ => rfl
  | n + 1, h => by
    rw [cnt, cnt_all n (fun a ha => h a (by omega)), if_pos (h n (by omega))]
    omega
theorem cle_le {f : Int → Int} {n : Nat} (hj : ∀ a b : Nat, a < n → b < n → f a = f b → a = b) (h0 : ∀ a : Nat, a < n → 0 ≤ f a) {x : Int} (hx : ∀ a : Nat, a < n → f a ≠ x) : ∀ m : Nat, cle f n m ≤ if x < m ∧ 0 ≤ x then m - 1 else m
  | 0 => by
    have : cle f n (0 : Nat) = 0 := by
      unfold cle
      have : ∀ k : Nat, k ≤ n → cnt (fun a => decide (f a < ((0 : Nat) : Int))) k = 0 := by
        intro k
        induction k with
        | zero => intro _; rfl
        | succ k ih =>
          intro hk
          have := h0 k (by omega)
          rw [cnt, ih (by omega)]
          simp
          omega
      exact this n (by omega)
    rw [this, if_neg (by omega)]
    omega
  | m + 1 => by
    have ih := cle_le hj h0 hx m
    have e : cle f n ((m + 1 : Nat) : Int) = cle f n m + cnt (fun a => decide (f a = (m : Int))) n := by
      unfold cle
      refine cnt_add n (fun a ha => ?_)
      simp only [decide_eq_true_eq]
      repeat' split
      all_goals omega
    obtain ⟨o1, o2⟩ := cnt_one (f := f) (m := (m : Int)) n hj
    rw [e]
    by_cases z : x = m
    · have := o2 (fun a ha => by rw [← z]; exact hx a ha)
      rw [if_pos (by omega)]
      rw [if_neg (by omega)] at ih
      omega
    · split at ih
      · rw [if_pos (by omega)]; omega
      · rw [if_neg (by omega)]; omega
theorem cnt_miss {f : Int → Bool} {a : Nat} (ha : f a = false) : ∀ k : Nat, a < k → cnt f k ≤ k - 1
  | 0, q => by omega
  | k + 1, q => by
    rw [cnt]
    by_cases z : a = k
    · have r := (cnt_rng (f := f) k).2
      have e : f (k : Int) = false := by rw [← z]; exact ha
      rw [e]
      simp
      omega
    · have := cnt_miss ha k (by omega)
      split <;> omega
/-- a rank is less than the number of ships -/
theorem ahd_top {a : Int} (a0 : 0 ≤ a) (a1 : a < mny V) : ahd V a (mny V) < mny V := by
  have s : bfb V a ((a.toNat : Nat) : Int) = false := by
    rw [Int.toNat_of_nonneg a0]
    unfold bfb
    simp
  have := cnt_miss (f := bfb V a) (a := a.toNat) s (mny V) (by omega)
  rw [ahd_cnt]
  omega
theorem ahd_on {n : Nat} (hn : n = mny V) {x : Int} (x0 : 0 ≤ x) (x1 : x < n) : ∃ a : Nat, a < n ∧ ahd V a n = x := by
  subst hn
  by_cases h : ∃ a : Nat, a < mny V ∧ ahd V a (mny V) = x
  · exact h
  · exfalso
    have hx : ∀ a : Nat, a < mny V → ahd V a (mny V) ≠ x := fun a ha e => h ⟨a, ha, e⟩
    have hj : ∀ a b : Nat, a < mny V → b < mny V → ahd V a (mny V) = ahd V b (mny V) → a = b := fun a b ha hb e => by
      have := ahd_inj (V := V) (a := a) (b := b) (by omega) (by omega) (by omega) (by omega) e
      omega
    have l := cle_le (f := fun a => ahd V a (mny V)) (n := mny V) hj (fun a _ => (ahd_le (V := V) (a := a) (mny V)).1) hx (mny V)
    rw [if_pos (by omega)] at l
    have al : ∀ a : Nat, a < mny V → ahd V a (mny V) < mny V := fun a ha => ahd_top (by omega) (by omega)
    have f2 : cle (fun a => ahd V a (mny V)) (mny V) (mny V) = mny V := by
      unfold cle
      exact cnt_all (mny V) (fun a ha => by simpa using al a ha)
    omega
/-- who has rank x -/
theorem rkx_on (I : In c V) {x : Int} (x0 : 0 ≤ x) (x1 : x < V 4) : 0 ≤ rkx V x (mny V) 0 ∧ rkx V x (mny V) 0 < V 4 ∧ ahd V (rkx V x (mny V) 0) (mny V) = x := by
  have h4 := I.h4
  have e : (mny V : Int) = V 4 := by unfold mny; omega
  obtain ⟨a, a1, a2⟩ := ahd_on (V := V) (n := mny V) rfl x0 (by omega)
  have rr := rkx_rng (V := V) (x := x) (mny V) 0 (by omega)
  by_cases z : rkx V x (mny V) 0 = -1
  · exact (rkx_none (V := V) (x := x) (mny V) 0 (by omega) z a (by omega) (by omega) a2).elim
  · exact ⟨by omega, by omega, rkx_hit (V := V) (x := x) (mny V) 0 (by omega) z⟩
/-- who has the lower rank comes first -/
theorem bef_of {a b : Int} (a0 : 0 ≤ a) (a1 : a < mny V) (b0 : 0 ≤ b) (b1 : b < mny V) (h : ahd V a (mny V) < ahd V b (mny V)) : 0 < fd V a 8 - fd V b 8 ∨ (fd V a 8 - fd V b 8 = 0 ∧ (0 < fd V a 3 - fd V b 3 ∨ (fd V a 3 - fd V b 3 = 0 ∧ a < b))) := by
  by_cases z : bfb V b a = true
  · unfold bfb at z
    simpa using z
  · exfalso
    have n : bfb V a b = true := by
      have ne : a ≠ b := fun e => by rw [e] at h; omega
      unfold bfb at z ⊢
      simp only [decide_eq_true_eq] at z ⊢
      omega
    have := ahd_lt (V := V) (a := a) (b := b) b0 b1 n
    omega
end PU
