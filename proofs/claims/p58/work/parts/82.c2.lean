/-! blocks counted in two ways, ranks, gaps in two ways -/
section K0
variable {G H M : Int} {V : Int → Int} {D : Nat → Int → Int}
def cnt (f : Int → Bool) : Nat → Int
  | 0 => 0
  | n + 1 => cnt f n + (if f n = true then 1 else 0)
theorem cnt_ext {f g : Int → Bool} : ∀ n : Nat, (∀ p : Nat, p < n → f p = g p) → cnt f n = cnt g n
  | 0, _ => rfl
  | n + 1, h => by rw [cnt, cnt, cnt_ext n (fun p hp => h p (by omega)), h n (by omega)]
theorem cnt_rng {f : Int → Bool} : ∀ n : Nat, 0 ≤ cnt f n ∧ cnt f n ≤ n
  | 0 => by simp [cnt]
  | n + 1 => by
    have := cnt_rng (f := f) n
    rw [cnt]
    split <;> omega
theorem cnt_le {f g : Int → Bool} : ∀ n : Nat, (∀ p : Nat, p < n → f p = true → g p = true) → cnt f n ≤ cnt g n
  | 0, _ => by simp [cnt]
  | n + 1, h => by
    have := cnt_le (f := f) (g := g) n (fun p hp => h p (by omega))
    rw [cnt, cnt]
    by_cases c : f n = true
    · rw [if_pos c, if_pos (h n (by omega) c)]
      omega
    · rw [if_neg c]
      split <;> omega
theorem cnt_lt {f g : Int → Bool} {q : Nat} : ∀ n : Nat, (∀ p : Nat, p < n → f p = true → g p = true) → q < n → f q = false → g q = true → cnt f n < cnt g n
  | 0, _, h, _, _ => by omega
  | n + 1, h, hq, h1, h2 => by
    rw [cnt, cnt]
    by_cases c : q = n
    · subst c
      have := cnt_le (f := f) (g := g) q (fun p hp => h p (by omega))
      rw [h1, h2]
      simp
      omega
    · have := cnt_lt (f := f) (g := g) n (fun p hp => h p (by omega)) (by omega) h1 h2
      by_cases d : f n = true
      · rw [if_pos d, if_pos (h n (by omega) d)]
        omega
      · rw [if_neg d]
        split <;> omega
theorem cnt_pt {f g : Int → Bool} {q : Int} : ∀ n : Nat, 0 ≤ q → q < n → f q = true → g q = false → (∀ p : Int, p ≠ q → f p = g p) → cnt f n = cnt g n + 1
  | 0, h1, h2, _, _, _ => by omega
  | n + 1, h1, h2, h3, h4, h5 => by
    rw [cnt, cnt]
    by_cases c : q = n
    · rw [← c, h3, h4, cnt_ext (f := f) (g := g) n (fun p hp => h5 p (by omega))]
      simp
    · rw [cnt_pt (f := f) (g := g) n h1 (by omega) h3 h4 h5, h5 n (by omega)]
      omega
/-- the metres from a on, n of them -/
def cnr (f : Int → Bool) (a : Int) : Nat → Int
  | 0 => 0
  | j + 1 => cnr f a j + (if f (a + j) = true then 1 else 0)
theorem cnr_cnt {f : Int → Bool} {a : Int} {m : Nat} (ha : 0 ≤ a) : ∀ n : Nat, a + n ≤ m → cnr f a n = cnt (fun p => decide (a ≤ p) && decide (p < a + n) && f p) m
  | 0, _ => by
    rw [cnr]
    have : ∀ m : Nat, cnt (fun p => decide (a ≤ p) && decide (p < a + (0 : Nat)) && f p) m = 0 := by
      intro m
      induction m with
      | zero => rfl
      | succ m ih =>
        rw [cnt, ih]
        have : ¬ ((decide (a ≤ (m : Int)) && decide ((m : Int) < a + (0 : Nat)) && f m) = true) := by
          simp
          intro x y
          omega
        rw [if_neg this]
        rfl
    rw [this]
  | n + 1, h => by
    rw [cnr, cnr_cnt (m := m) ha n (by omega)]
    by_cases c : f (a + n) = true
    · rw [if_pos c]
      symm
      refine cnt_pt (q := a + n) m (by omega) (by omega) ?_ ?_ ?_
      · simp [c]
        omega
      · simp
      · intro p hp
        congr 2
        by_cases d : p < a + n
        · simp [d]; omega
        · simp [d]; omega
    · rw [if_neg c, Int.add_zero]
      refine cnt_ext m (fun p hp => ?_)
      by_cases d : (p : Int) = a + n
      · have : f p = false := by rw [d]; simpa using c
        simp [this]
      · congr 2
        by_cases e : (p : Int) < a + n
        · simp [e]; omega
        · simp [e]; omega
theorem at_iff (I : Inv G H M V) {p k : Int} (h1 : 0 ≤ k) (h2 : k < V 4) : at' V p = k ↔ cov V p k := by
  constructor
  · intro e
    have := atm_cov (V := V) (p := p) (mny V) (by show at' V p ≠ -1; omega)
    have e2 : atm V p (mny V) = k := e
    rwa [e2] at this
  · exact at_of I h1 h2
theorem bnt_cnt (I : Inv G H M V) {k : Int} : ∀ n : Nat, n ≤ 60 → bnt V k n = cnt (fun p => decide (at' V p = k) && decide (V (80 + p) = 1)) n
  | 0, _ => rfl
  | n + 1, h => by
    rw [bnt, cnt, bnt_cnt I n (by omega)]
    have := I.bl n (by omega) (by omega)
    by_cases c : at' V n = k
    · by_cases d : V (80 + n) = 1
      · simp [c, d]
      · have : V (80 + n) = 0 := by omega
        simp [c, this]
    · simp [c]
/-- positions kept, up to n -/
def mem (D : Nat → Int → Int) : Nat → Int → Bool
  | 0, _ => false
  | n + 1, p => mem D n p || decide (D 12 n = p)
theorem mem_iff {p : Int} : ∀ n : Nat, mem D n p = true ↔ ∃ i : Int, 0 ≤ i ∧ i < n ∧ D 12 i = p
  | 0 => by
    simp [mem]
    intro i h1 h2
    omega
  | n + 1 => by
    rw [mem, Bool.or_eq_true, mem_iff n, decide_eq_true_eq]
    constructor
    · rintro (⟨i, a, b, c⟩ | h)
      · exact ⟨i, a, by omega, c⟩
      · exact ⟨n, by omega, by omega, h⟩
    · rintro ⟨i, a, b, c⟩
      by_cases d : i = n
      · right; rw [← d]; exact c
      · left; exact ⟨i, a, by omega, c⟩
def cbk (D : Nat → Int → Int) (f : Int → Bool) : Nat → Int
  | 0 => 0
  | n + 1 => cbk D f n + (if f (D 12 n) = true then 1 else 0)
theorem cbk_cnt {f : Int → Bool} (hd : DV D V) : ∀ n : Nat, (n : Int) ≤ D 11 1 → cbk D f n = cnt (fun p => f p && mem D n p) 60
  | 0, _ => by
    have : ∀ m : Nat, cnt (fun p => f p && mem D 0 p) m = 0 := by
      intro m
      induction m with
      | zero => rfl
      | succ m ih => rw [cnt, ih]; simp [mem]
    rw [this]
    rfl
  | n + 1, h => by
    rw [cbk, cbk_cnt hd n (by omega)]
    have b := hd.bl
    have bn := b.2.2.1 n (by omega) (by omega)
    have hnm : mem D n (D 12 n) = false := by
      by_cases c : mem D n (D 12 n) = true
      · obtain ⟨i, a1, a2, a3⟩ := (mem_iff n).mp c
        exact absurd a3 (b.2.2.2.1 i n a1 a2 (by omega))
      · simpa using c
    by_cases c : f (D 12 n) = true
    · rw [if_pos c]
      symm
      refine cnt_pt (q := D 12 n) 60 bn.1 bn.2 ?_ ?_ ?_
      · simp [c, mem]
      · simp [hnm]
      · intro p hp
        simp only [mem]
        have : decide (D 12 n = p) = false := by simp; omega
        rw [this, Bool.or_false]
    · rw [if_neg c, Int.add_zero]
      refine cnt_ext 60 (fun p hp => ?_)
      by_cases d : (p : Int) = D 12 n
      · have : f p = false := by rw [d]; simpa using c
        simp [this]
      · simp only [mem]
        have : decide (D 12 n = (p : Int)) = false := by simp; omega
        rw [this, Bool.or_false]
theorem mem_V (hd : DV D V) {p : Int} (h1 : 0 ≤ p) (h2 : p < 60) : mem D (D 11 1).toNat p = decide (V (80 + p) = 1) := by
  have b := hd.bl
  have h := b.2.2.2.2 p h1 h2
  have e := mem_iff (D := D) (p := p) (D 11 1).toNat
  rw [Int.toNat_of_nonneg b.1] at e
  by_cases c : V (80 + p) = 1
  · rw [e.mpr (h.mp c)]
    simp [c]
  · have : ¬ mem D (D 11 1).toNat p = true := fun x => c (h.mpr (e.mp x))
    simp [c]
    simpa using this
/-- a ship's metres, as a test -/
def cvb (V : Int → Int) (k : Int) (p : Int) : Bool := decide (fd V k 4 ≠ -1 ∧ fd V k 4 < p + 1 ∧ p < fd V k 4 + fd V k 1)
theorem cvb_cov {k p : Int} : cvb V k p = true ↔ cov V p k := by
  unfold cvb cov
  rw [decide_eq_true_eq]
  omega
theorem cbk_bnt (hd : DV D V) (I : Inv G H M V) {k : Int} (h1 : 0 ≤ k) (h2 : k < V 4) : cbk D (cvb V k) (D 11 1).toNat = bnt V k 60 := by
  have b := hd.bl
  rw [cbk_cnt hd _ (by omega), bnt_cnt I 60 (by omega)]
  refine cnt_ext 60 (fun p hp => ?_)
  rw [mem_V hd (by omega) (by omega)]
  congr 1
  by_cases c : at' V p = k
  · rw [cvb_cov.mpr ((at_iff I h1 h2).mp c)]
    simp [c]
  · have : ¬ cvb V k p = true := fun x => c ((at_iff I h1 h2).mpr (cvb_cov.mp x))
    simp [c]
    simpa using this
theorem cnr_bnt (I : Inv G H M V) {k : Int} (h1 : 0 ≤ k) (h2 : k < V 4) (hk : fd V k 4 ≠ -1) : cnr (fun p => decide (V (80 + p) = 1)) (fd V k 4) (fd V k 1).toNat = bnt V k 60 := by
  have s := I.sh k h1 h2
  unfold shOK at s
  rw [cnr_cnt (m := 60) (by omega) _ (by omega), bnt_cnt I 60 (by omega)]
  refine cnt_ext 60 (fun p hp => ?_)
  congr 1
  by_cases c : at' V p = k
  · have := (at_iff I h1 h2).mp c
    unfold cov at this
    simp [c]
    omega
  · have : ¬ cov V p k := fun x => c ((at_iff I h1 h2).mpr x)
    unfold cov at this
    simp [c]
    omega
/-! ranks are different -/
def bfb (V : Int → Int) (a : Int) (b : Int) : Bool := decide (0 < fd V b 8 - fd V a 8 ∨ (fd V b 8 - fd V a 8 = 0 ∧ (0 < fd V b 3 - fd V a 3 ∨ (fd V b 3 - fd V a 3 = 0 ∧ b < a))))
theorem ahd_cnt {a : Int} : ∀ n : Nat, ahd V a n = cnt (bfb V a) n
  | 0 => rfl
  | n + 1 => by
    rw [ahd, cnt, ahd_cnt n]
    unfold bfb
    simp only [decide_eq_true_eq]
theorem ahd_lt {a b : Int} (hb1 : 0 ≤ b) (hb2 : b < mny V) (h : bfb V a b = true) : ahd V b (mny V) < ahd V a (mny V) := by
  rw [ahd_cnt, ahd_cnt]
  refine cnt_lt (q := b.toNat) (mny V) (fun p hp h9 => ?_) (by omega) ?_ ?_
  · unfold bfb at h h9 ⊢
    simp only [decide_eq_true_eq] at h h9 ⊢
    omega
  · rw [Int.toNat_of_nonneg hb1]
    unfold bfb
    simp
  · rw [Int.toNat_of_nonneg hb1]
    exact h
theorem ahd_inj {a b : Int} (ha1 : 0 ≤ a) (ha2 : a < mny V) (hb1 : 0 ≤ b) (hb2 : b < mny V) (he : ahd V a (mny V) = ahd V b (mny V)) : a = b := by
  by_cases c : bfb V a b = true
  · have := ahd_lt hb1 hb2 c
    omega
  · by_cases d : bfb V b a = true
    · have := ahd_lt ha1 ha2 d
      omega
    · unfold bfb at c d
      simp only [decide_eq_true_eq] at c d
      omega
/-- the first ship of a rank from j on, among r -/
def rkx (V : Int → Int) (x : Int) : Nat → Int → Int
  | 0, _ => -1
  | r + 1, j => if ahd V j (mny V) = x then j else rkx V x r (j + 1)
theorem rkx_rng {x : Int} : ∀ (r : Nat) (j : Int), 0 ≤ j → rkx V x r j = -1 ∨ (j ≤ rkx V x r j ∧ rkx V x r j < j + r)
  | 0, _, _ => Or.inl rfl
  | r + 1, j, h => by
    have := rkx_rng (x := x) r (j + 1) (by omega)
    rw [rkx]
    split <;> omega
theorem rkx_none {x : Int} : ∀ (r : Nat) (j : Int), 0 ≤ j → rkx V x r j = -1 → ∀ k : Int, j ≤ k → k < j + r → ahd V k (mny V) ≠ x
  | 0, j, _, _ => fun k a b => by omega
  | r + 1, j, h, e => fun k a b => by
    rw [rkx] at e
    split at e
    · omega
    · rename_i hc
      by_cases c : k = j
      · rw [c]; exact hc
      · exact rkx_none r (j + 1) (by omega) e k (by omega) (by omega)
theorem rkx_hit {x : Int} : ∀ (r : Nat) (j : Int), 0 ≤ j → rkx V x r j ≠ -1 → ahd V (rkx V x r j) (mny V) = x
  | 0, j, _, h => absurd rfl h
  | r + 1, j, h0, h => by
    rw [rkx] at h ⊢
    split
    · rename_i hc; exact hc
    · rename_i hc
      rw [if_neg hc] at h
      exact rkx_hit r (j + 1) (by omega) h
theorem rkf_none {x : Int} : ∀ n : Nat, (∀ k : Nat, k < n → ahd V k (mny V) ≠ x) → rkf V x n = -1
  | 0, _ => rfl
  | n + 1, h => by rw [rkf, if_neg (h n (by omega)), rkf_none n (fun k hk => h k (by omega))]
theorem rkf_some {x : Int} {a : Nat} (ha : a < mny V) (h : ahd V a (mny V) = x) : ∀ n : Nat, a < n → n ≤ mny V → rkf V x n = fd V a 0
  | 0, h1, _ => by omega
  | n + 1, h1, h2 => by
    rw [rkf]
    by_cases c : a = n
    · subst c
      rw [if_pos h]
    · rw [if_neg (fun e => c (by have := ahd_inj (V := V) (a := a) (b := n) (by omega) (by omega) (by omega) (by omega) (by rw [h, e]); omega)), rkf_some ha h n (by omega) (by omega)]
/-- the class finds by rank what the reference finds -/
theorem rkx_rkf (I : Inv G H M V) {x : Int} : rkf V x (mny V) = if rkx V x (mny V) 0 = -1 then -1 else fd V (rkx V x (mny V) 0) 0 := by
  by_cases c : rkx V x (mny V) 0 = -1
  · rw [if_pos c]
    exact rkf_none _ (fun k hk => rkx_none (mny V) 0 (by omega) c k (by omega) (by omega))
  · rw [if_neg c]
    have h := rkx_hit (V := V) (mny V) 0 (by omega) c
    have r := rkx_rng (V := V) (x := x) (mny V) 0 (by omega)
    have e : ((rkx V x (mny V) 0).toNat : Int) = rkx V x (mny V) 0 := by omega
    have := rkf_some (V := V) (x := x) (a := (rkx V x (mny V) 0).toNat) (by omega) (by rw [e]; exact h) (mny V) (by omega) (by omega)
    rwa [e] at this
/-! gaps -/
/-- docked ships that end behind p -/
def ceb (V : Int → Int) (p : Int) (k : Int) : Bool := decide (fd V k 4 ≠ -1 ∧ p < fd V k 4 + fd V k 1)
def gbs (V : Int → Int) (l : Int) : Nat → Int → Int
  | 0, p => p
  | r + 1, p => if ovf V p l (mny V) 0 = -1 then gbs V l r p else gbs V l r (fd V (ovf V p l (mny V) 0) 4 + fd V (ovf V p l (mny V) 0) 1)
theorem gbs_stay {l : Int} : ∀ (r : Nat) (p : Int), ovf V p l (mny V) 0 = -1 → gbs V l r p = p
  | 0, _, _ => rfl
  | r + 1, p, h => by rw [gbs, if_pos h, gbs_stay r p h]
theorem gbs_ok (I : Inv G H M V) {l : Int} (hl : 1 ≤ l) : ∀ (r : Nat) (p : Int), 0 ≤ p → p ≤ 60 → (∀ q : Int, 0 ≤ q → q < p → ovf V q l (mny V) 0 ≠ -1) → cnt (ceb V p) (mny V) ≤ r → 0 ≤ gbs V l r p ∧ gbs V l r p ≤ 60 ∧ (∀ q : Int, 0 ≤ q → q < gbs V l r p → ovf V q l (mny V) 0 ≠ -1) ∧ ovf V (gbs V l r p) l (mny V) 0 = -1
  | 0, p, h0, h6, hq, hc => by
    rw [gbs]
    refine ⟨h0, h6, hq, ?_⟩
    rw [ovf_none _ _ (by omega)]
    intro k h1 h2 h3
    have := cnt_lt (f := fun _ => false) (g := ceb V p) (q := k.toNat) (mny V) (fun _ _ h => by cases h) (by omega) rfl (by rw [Int.toNat_of_nonneg h1]; unfold ceb; simp; omega)
    have := cnt_rng (f := fun _ => false) (mny V)
    omega
  | r + 1, p, h0, h6, hq, hc => by
    rw [gbs]
    by_cases c : ovf V p l (mny V) 0 = -1
    · rw [if_pos c, gbs_stay r p c]
      exact ⟨h0, h6, hq, c⟩
    · rw [if_neg c]
      have h := ovf_hit (V := V) (mny V) 0 c
      have hr := ovf_rng (V := V) (a := p) (l := l) (mny V) 0 (by omega)
      have h4 := I.h4
      have hm : (mny V : Int) = V 4 := by unfold mny; omega
      generalize ovf V p l (mny V) 0 = s at c h hr ⊢
      have sh := I.sh s (by omega) (by omega)
      unfold shOK at sh
      refine gbs_ok I hl r _ (by omega) (by omega) (fun q a b => ?_) ?_
      · by_cases d : q < p
        · exact hq q a d
        · intro e
          exact (ovf_none (V := V) (mny V) 0 (by omega)).mp e s (by omega) (by omega) (by omega)
      · have := cnt_lt (f := ceb V (fd V s 4 + fd V s 1)) (g := ceb V p) (q := s.toNat) (mny V) (fun k hk h9 => by unfold ceb at h9 ⊢; simp only [decide_eq_true_eq] at h9 ⊢; omega) (by omega) (by rw [Int.toNat_of_nonneg (by omega)]; unfold ceb; simp) (by rw [Int.toNat_of_nonneg (by omega)]; unfold ceb; simp; omega)
        omega
theorem gpf_none {l : Int} : ∀ (r : Nat) (a : Int), (∀ q : Int, a ≤ q → q + l ≤ 60 → fre V q l.toNat ≠ 1) → gpf V l r a = -1
  | 0, _, _ => rfl
  | r + 1, a, h => by
    rw [gpf]
    by_cases c : 60 < a + l
    · rw [if_pos c]
    · rw [if_neg c, if_neg (h a (by omega) (by omega)), gpf_none r (a + 1) (fun q x y => h q (by omega) y)]
theorem gpf_some {l : Int} {g : Int} (hg : g + l ≤ 60) (hf : fre V g l.toNat = 1) : ∀ (r : Nat) (a : Int), a ≤ g → g < a + r → (∀ q : Int, a ≤ q → q < g → fre V q l.toNat ≠ 1) → gpf V l r a = g
  | 0, _, h1, h2, _ => by omega
  | r + 1, a, h1, h2, h => by
    rw [gpf, if_neg (by omega)]
    by_cases c : a = g
    · rw [c, if_pos hf]
    · rw [if_neg (h a (by omega) (by omega)), gpf_some hg hf r (a + 1) (by omega) (by omega) (fun q x y => h q (by omega) y)]
/-- both ways to the first gap -/
theorem gap_both (I : Inv G H M V) {l : Int} (h1 : 1 ≤ l) (h2 : l ≤ 60) : gpf V l (62 - l).toNat 0 = if 60 < gbs V l (mny V) 0 + l then -1 else gbs V l (mny V) 0 := by
  have c0 := cnt_rng (f := ceb V 0) (mny V)
  obtain ⟨a, b, c, d⟩ := gbs_ok I h1 (mny V) 0 (by omega) (by omega) (fun q x y => by omega) (by omega)
  by_cases e : 60 < gbs V l (mny V) 0 + l
  · rw [if_pos e]
    exact gpf_none _ _ (fun q x y h => c q x (by omega) ((ovf_fre I h1).mpr h))
  · rw [if_neg e]
    exact gpf_some (by omega) ((ovf_fre I h1).mp d) _ _ a (by omega) (fun q x y h => c q x y ((ovf_fre I h1).mpr h))
/-! metres taken -/
theorem tkn_frm (I : Inv G H M V) : 60 - frm V 60 = tkn V (mny V) := by
  have h4 := I.h4
  have hm : (mny V : Int) = V 4 := by unfold mny; omega
  have f : ∀ n : Nat, frm V n = n - cnt (fun p => decide (at' V p ≠ -1)) n := by
    intro n
    induction n with
    | zero => rfl
    | succ n ih =>
      rw [frm, cnt, ih]
      by_cases c : at' V n = -1
      · simp [c]
        omega
      · simp [c]
        omega
  have t : ∀ n : Nat, (n : Int) ≤ V 4 → tkn V n = cnt (fun p => decide (0 ≤ at' V p) && decide (at' V p < n)) 60 := by
    intro n
    induction n with
    | zero =>
      intro _
      have : ∀ m : Nat, cnt (fun p => decide (0 ≤ at' V p) && decide (at' V p < (0 : Nat))) m = 0 := by
        intro m
        induction m with
        | zero => rfl
        | succ m ih =>
          rw [cnt, ih, if_neg (by simp)]
          rfl
      rw [this]
      rfl
    | succ n ih =>
      intro hn
      rw [tkn, ih (by omega)]
      have add : ∀ m : Nat, cnt (fun p => decide (0 ≤ at' V p) && decide (at' V p < ((n + 1 : Nat) : Int))) m = cnt (fun p => decide (0 ≤ at' V p) && decide (at' V p < n)) m + cnt (fun p => decide (at' V p = n)) m := by
        intro m
        induction m with
        | zero => rfl
        | succ m ih2 =>
          rw [cnt, cnt, cnt, ih2]
          by_cases c1 : at' V m = n
          · simp [c1]
            omega
          · by_cases c2 : 0 ≤ at' V m
            · by_cases c3 : at' V m < n
              · have : at' V m < (n : Int) + 1 := by omega
                simp [c1, c2, c3, this]
                omega
              · have : ¬ at' V m < (n : Int) + 1 := by omega
                simp [c1, c2, c3, this]
            · simp [c1, c2]
      rw [add]
      congr 1
      by_cases c : fd V n 4 = -1
      · have : ∀ m : Nat, cnt (fun p => decide (at' V p = n)) m = 0 := by
          intro m
          induction m with
          | zero => rfl
          | succ m ih2 =>
            rw [cnt, ih2]
            have : ¬ at' V m = n := fun e => by
              have := (at_iff I (by omega) (by omega)).mp e
              unfold cov at this
              omega
            simp [this]
        rw [this]
        simp [c]
      · rw [if_pos c]
        have s := I.sh n (by omega) (by omega)
        unfold shOK at s
        have e := cnr_cnt (f := fun _ => true) (a := fd V n 4) (m := 60) (by omega) (fd V n 1).toNat (by omega)
        have e2 : ∀ j : Nat, cnr (fun _ => true) (fd V n 4) j = j := by
          intro j
          induction j with
          | zero => rfl
          | succ j ih2 => rw [cnr, ih2]; simp
        rw [e2] at e
        rw [show fd V n 1 = ((fd V n 1).toNat : Int) by omega, e]
        refine cnt_ext 60 (fun p hp => ?_)
        by_cases d : at' V p = n
        · have := (at_iff I (by omega) (by omega)).mp d
          unfold cov at this
          simp [d]
          omega
        · have : ¬ cov V p n := fun x => d ((at_iff I (by omega) (by omega)).mpr x)
          unfold cov at this
          simp [d]
          omega
  rw [f 60, t (mny V) (by omega), show (60 : Int) - ((60 : Nat) - cnt (fun p => decide (at' V p ≠ -1)) 60) = cnt (fun p => decide (at' V p ≠ -1)) 60 by omega]
  refine cnt_ext 60 (fun p hp => ?_)
  have r := atm_le (V := V) (p := p) (mny V)
  have r2 : at' V p = atm V p (mny V) := rfl
  by_cases c : at' V p = -1
  · simp [c]
  · simp [c]
    omega
end K0
