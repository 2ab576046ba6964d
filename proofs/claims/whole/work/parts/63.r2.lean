/-! what is read of the array now: pure functions; and the reference's searches and sums -/
def fd (V : Int → Int) (k i : Int) : Int := V (8 + 9 * k + i)
def OKV (V : Int → Int) : Prop := (∀ j, -100000000 ≤ V j ∧ V j ≤ 100000000) ∧ 0 ≤ V 4 ∧ V 4 ≤ 8
theorem OKV.fd {V : Int → Int} (h : OKV V) (k i : Int) : -100000000 ≤ fd V k i ∧ fd V k i ≤ 100000000 := h.1 _
def mny (V : Int → Int) : Nat := (V 4).toNat
def fnd (V : Int → Int) (id : Int) : Nat → Int
  | 0 => -1
  | k + 1 => if fd V k 0 = id then k else fnd V id k
def cov (V : Int → Int) (p k : Int) : Prop := fd V k 4 ≠ -1 ∧ fd V k 4 ≤ p ∧ p ≤ fd V k 4 + fd V k 1 - 1
def covD (V : Int → Int) (p k : Int) : Decidable (cov V p k) := inferInstanceAs (Decidable (_ ∧ _ ∧ _))
def atm (V : Int → Int) (p : Int) : Nat → Int
  | 0 => -1
  | k + 1 => if fd V k 4 ≠ -1 ∧ fd V k 4 ≤ p ∧ p ≤ fd V k 4 + fd V k 1 - 1 then k else atm V p k
def at' (V : Int → Int) (p : Int) : Int := atm V p (mny V)
def fre (V : Int → Int) (a : Int) : Nat → Int
  | 0 => 1
  | j + 1 => if fre V a j = 1 ∧ at' V (a + j) = -1 then 1 else 0
def dct (V : Int → Int) : Nat → Int
  | 0 => 0
  | k + 1 => dct V k + (if fd V k 4 ≠ -1 then 1 else 0)
def blk (V : Int → Int) : Nat → Int
  | 0 => 0
  | p + 1 => blk V p + V (80 + p)
def bnt (V : Int → Int) (k : Int) : Nat → Int
  | 0 => 0
  | p + 1 => bnt V k p + (if at' V p = k then V (80 + p) else 0)
def smm (V : Int → Int) (i : Int) : Nat → Int
  | 0 => 0
  | k + 1 => smm V i k + fd V k i
def sea (t : Int) : Int := if t % 12 ≤ 6 then 40 + 20 * (t % 12) else 160 - 20 * (t % 12 - 6)
def lvl (V : Int → Int) (l t : Int) : Int := if V 2 = 0 then max 0 (min 200 (l + V 3)) else l + max (-20) (min 20 (sea t - l))
theorem fnd_le {V : Int → Int} {id : Int} : ∀ n : Nat, -1 ≤ fnd V id n ∧ fnd V id n < n
  | 0 => by simp [fnd]
  | k + 1 => by
    have := fnd_le (V := V) (id := id) k
    rw [fnd]
    split <;> omega
theorem atm_le {V : Int → Int} {p : Int} : ∀ n : Nat, -1 ≤ atm V p n ∧ atm V p n < n
  | 0 => by simp [atm]
  | k + 1 => by
    have := atm_le (V := V) (p := p) k
    rw [atm]
    split <;> omega
theorem fre_01 {V : Int → Int} {a : Int} : ∀ n : Nat, fre V a n = 0 ∨ fre V a n = 1
  | 0 => Or.inr rfl
  | k + 1 => by rw [fre]; split <;> omega
theorem dct_le {V : Int → Int} : ∀ n : Nat, 0 ≤ dct V n ∧ dct V n ≤ n
  | 0 => by simp [dct]
  | k + 1 => by
    have := dct_le (V := V) k
    rw [dct]
    split <;> omega
theorem it01 {c : Prop} [Decidable c] : (if c then (1 : Int) else 0) = 0 ∨ (if c then (1 : Int) else 0) = 1 := by split <;> omega
theorem J01_0 {c : Prop} [Decidable c] : (J (if c then 1 else 0) = J 0) = ¬ c := by
  by_cases h : c
  · rw [if_pos h, J_eq (by omega) (by omega) (by omega) (by omega)]; simp [h]
  · rw [if_neg h]; simp [h]
theorem J01_1 {c : Prop} [Decidable c] : (J (if c then 1 else 0) = J 1) = c := by
  by_cases h : c
  · rw [if_pos h]; simp [h]
  · rw [if_neg h, J_eq (by omega) (by omega) (by omega) (by omega)]; simp [h]
section R2
variable {Θ : mW} {N m : Nat} {S : Nat → Int → Int} {h : mH}
theorem s_ofK (hb : bOK Θ 9 m h) {k i : Int} (h1 : 0 ≤ k) (h2 : k ≤ 7) (h3 : 0 ≤ i) (h4 : i ≤ 8) : P_R_of Θ N (HR Θ m S h) m (J k) (J i) = some (J (fd (S 1) k i), HR Θ m S h) := by
  rw [s_of hb (by omega) h2 h3 h4, Int.max_eq_right h1]
  rfl
theorem s_of0 (hb : bOK Θ 9 m h) {i : Int} (h3 : 0 ≤ i) (h4 : i ≤ 8) : P_R_of Θ N (HR Θ m S h) m (J (-1)) (J i) = some (J (fd (S 1) 0 i), HR Θ m S h) := by
  rw [s_of hb (by omega) (by omega) h3 h4]
  rfl
theorem s_docK (hb : bOK Θ 9 m h) (hV : OKV (S 1)) {k : Int} (h1 : 0 ≤ k) (h2 : k ≤ 7) : P_R_isDocked Θ N (HR Θ m S h) m (J k) = some (J (if fd (S 1) k 4 ≠ -1 then 1 else 0), HR Θ m S h) := by
  unfold P_R_isDocked
  have b := hV.fd k 4
  rw [if_neg (by rw [J_eq] <;> omega), r_O hb, s_ofK hb h1 h2 (by omega) (by omega), bc_some]
  by_cases c : fd (S 1) k 4 = -1
  · rw [c, if_pos rfl, if_neg (by omega)]
  · rw [if_neg (by rw [J_eq] <;> omega), if_pos c]
theorem s_doc0 (hb : bOK Θ 9 m h) : P_R_isDocked Θ N (HR Θ m S h) m (J (-1)) = some (J 0, HR Θ m S h) := by
  unfold P_R_isDocked
  rw [if_pos rfl]
theorem s_find_L (hb : bOK Θ 9 m h) (hV : OKV (S 1)) {id : Int} (i1 : -2147483648 ≤ id) (i2 : id < 2147483648) {K : mH → Int32 → Option (Int32 × mH)} : ∀ (r j n : Nat), (j : Int) + r = S 1 4 → r < n → P_R_find_4 Θ N K m (J id) n (HR Θ m S h) (J (fnd (S 1) id j)) (J j) = K (HR Θ m S h) (J (fnd (S 1) id (mny (S 1)))) := by
  intro r
  have hm := hV.2
  induction r with
  | zero =>
    intro j n hj hn
    obtain ⟨n, rfl⟩ : ∃ n', n = n' + 1 := ⟨n - 1, by omega⟩
    rw [E_R_find_4, B_R_find_4, r_A0 hb, bo_some, r_a1 hb (by omega) (by omega), bo_some, if_pos (by rw [J_le] <;> omega), show mny (S 1) = j by unfold mny; omega]
  | succ r ih =>
    intro j n hj hn
    obtain ⟨n, rfl⟩ : ∃ n', n = n' + 1 := ⟨n - 1, by omega⟩
    have b := hV.fd j 0
    have ih' := ih (j + 1) n (by omega) (by omega)
    rw [fnd] at ih'
    rw [E_R_find_4, B_R_find_4, r_A0 hb, bo_some, r_a1 hb (by omega) (by omega), bo_some, if_neg (by rw [J_le] <;> omega), r_O hb, s_ofK hb (by omega) (by omega) (by omega) (by omega), bc_some, jn_it1, J_ite, J_add, ← ih']
    by_cases c : fd (S 1) j 0 = id
    · rw [if_pos (by rw [c]), if_pos c]; rfl
    · rw [if_neg (by rw [J_eq] <;> omega), if_neg c]; rfl
theorem s_find (hN : 2000 ≤ N) (hb : bOK Θ 9 m h) (hV : OKV (S 1)) {id : Int} (i1 : -2147483648 ≤ id) (i2 : id < 2147483648) : P_R_find Θ N (HR Θ m S h) m (J id) = some (J (fnd (S 1) id (mny (S 1))), HR Θ m S h) := by
  unfold P_R_find
  have hm := hV.2
  exact s_find_L (K := fun h8 u9 => some (u9, h8)) hb hV i1 i2 (S 1 4).toNat 0 N (by omega) (by omega)
theorem s_at_L (hb : bOK Θ 9 m h) (hV : OKV (S 1)) {p : Int} (i1 : -2147483648 ≤ p) (i2 : p < 2147483648) {K : mH → Int32 → Option (Int32 × mH)} : ∀ (r j n : Nat), (j : Int) + r = S 1 4 → r < n → P_R_at_4 Θ N K m (J p) n (HR Θ m S h) (J (atm (S 1) p j)) (J j) = K (HR Θ m S h) (J (at' (S 1) p)) := by
  intro r
  have hm := hV.2
  induction r with
  | zero =>
    intro j n hj hn
    obtain ⟨n, rfl⟩ : ∃ n', n = n' + 1 := ⟨n - 1, by omega⟩
    rw [E_R_at_4, B_R_at_4, r_A0 hb, bo_some, r_a1 hb (by omega) (by omega), bo_some, if_pos (by rw [J_le] <;> omega), at', show mny (S 1) = j by unfold mny; omega]
  | succ r ih =>
    intro j n hj hn
    obtain ⟨n, rfl⟩ : ∃ n', n = n' + 1 := ⟨n - 1, by omega⟩
    have b4 := hV.fd j 4
    have b1 := hV.fd j 1
    have ih' := ih (j + 1) n (by omega) (by omega)
    rw [atm] at ih'
    rw [E_R_at_4, B_R_at_4, r_A0 hb, bo_some, r_a1 hb (by omega) (by omega), bo_some, if_neg (by rw [J_le] <;> omega), r_O hb, s_docK hb hV (by omega) (by omega), bc_some]
    simp (disch := omega) only [r_O hb, s_ofK hb, bc_some, J_add, J_sub, s_isIn]
    rw [← ih']
    simp only [jn_it1, jn_it2, jn_eq, J_0, J01_0, J_ite, J_add]
    by_cases c1 : fd (S 1) j 4 = -1
    · simp [c1, J_0]
    · by_cases c2 : fd (S 1) j 4 ≤ p ∧ p ≤ fd (S 1) j 4 + fd (S 1) j 1 - 1
      · simp (disch := omega) [c1, c2, J_0, J_eq]
      · simp (disch := omega) [c1, c2, J_0, J_eq]
theorem s_at (hN : 2000 ≤ N) (hb : bOK Θ 9 m h) (hV : OKV (S 1)) {p : Int} (i1 : -2147483648 ≤ p) (i2 : p < 2147483648) : P_R_at Θ N (HR Θ m S h) m (J p) = some (J (at' (S 1) p), HR Θ m S h) := by
  unfold P_R_at
  have hm := hV.2
  exact s_at_L (K := fun h8 u9 => some (u9, h8)) hb hV i1 i2 (S 1 4).toNat 0 N (by omega) (by omega)
theorem at_le (hV : OKV (S 1)) {p : Int} : -1 ≤ at' (S 1) p ∧ at' (S 1) p < S 1 4 := by
  have hm := hV.2
  have := atm_le (V := S 1) (p := p) (mny (S 1))
  unfold at'
  unfold mny at *
  omega
theorem s_isFree_L (hN : 2000 ≤ N) (hb : bOK Θ 9 m h) (hV : OKV (S 1)) {a n0 : Int} (i1 : -100000 ≤ a) (i2 : a < 100000) (i4 : n0 < 100000) {K : mH → Int32 → Option (Int32 × mH)} : ∀ (r j n : Nat), (j : Int) + r = n0 → r < n → P_R_isFree_5 Θ N K m (J a) (J n0) n (HR Θ m S h) (J (fre (S 1) a j)) (J (a + j)) = K (HR Θ m S h) (J (fre (S 1) a n0.toNat)) := by
  intro r
  induction r with
  | zero =>
    intro j n hj hn
    obtain ⟨n, rfl⟩ : ∃ n', n = n' + 1 := ⟨n - 1, by omega⟩
    rw [E_R_isFree_5, B_R_isFree_5, J_add, if_pos (by rw [J_le] <;> omega), show n0.toNat = j by omega]
  | succ r ih =>
    intro j n hj hn
    obtain ⟨n, rfl⟩ : ∃ n', n = n' + 1 := ⟨n - 1, by omega⟩
    have ih' := ih (j + 1) n (by omega) (by omega)
    have b := at_le (S := S) hV (p := a + j)
    have b2 := fre_01 (V := S 1) (a := a) j
    have hm := hV.2
    rw [fre, show a + ((j + 1 : Nat) : Int) = a + j + 1 by omega] at ih'
    rw [E_R_isFree_5, B_R_isFree_5, J_add, if_neg (by rw [J_le] <;> omega)]
    simp only [r_O hb]
    simp (disch := omega) only [s_at hN hb hV, bc_some]
    rw [← ih']
    simp only [jn_it1, jn_it2, jn_eq, J_0, J_ite, J_add]
    by_cases c1 : fre (S 1) a j = 0
    · simp (disch := omega) [c1]
    · have c1' : fre (S 1) a j = 1 := by omega
      by_cases c2 : at' (S 1) (a + j) = -1
      · simp (disch := omega) [c1', c2, J_eq]
      · simp (disch := omega) [c1', c2, J_eq]
theorem s_isFree (hN : 2000 ≤ N) (hb : bOK Θ 9 m h) (hV : OKV (S 1)) {a n0 : Int} (i1 : -100000 ≤ a) (i2 : a < 100000) (i3 : 0 ≤ n0) (i4 : n0 < 1000) : P_R_isFree Θ N (HR Θ m S h) m (J a) (J n0) = some (J (fre (S 1) a n0.toNat), HR Θ m S h) := by
  unfold P_R_isFree
  have e : J a = J (a + (0 : Nat)) := by simp
  have := s_isFree_L (K := fun h8 u9 => if u9 = J 0 ∨ u9 = J 1 then some (u9, h8) else none) hN hb hV (n0 := n0) i1 i2 (by omega) n0.toNat 0 N (by omega) (by omega)
  rw [← e] at this
  refine this.trans ?_
  rcases fre_01 (V := S 1) (a := a) n0.toNat with c | c <;> rw [c] <;> simp
theorem s_docked_L (hb : bOK Θ 9 m h) (hV : OKV (S 1)) {K : mH → Int32 → Option (Int32 × mH)} : ∀ (r j n : Nat), (j : Int) + r = S 1 4 → r < n → P_R_docked_4 Θ N K m n (HR Θ m S h) (J (dct (S 1) j)) (J j) = K (HR Θ m S h) (J (dct (S 1) (mny (S 1)))) := by
  intro r
  have hm := hV.2
  induction r with
  | zero =>
    intro j n hj hn
    obtain ⟨n, rfl⟩ : ∃ n', n = n' + 1 := ⟨n - 1, by omega⟩
    rw [E_R_docked_4, B_R_docked_4, r_A0 hb, bo_some, r_a1 hb (by omega) (by omega), bo_some, if_pos (by rw [J_le] <;> omega), show mny (S 1) = j by unfold mny; omega]
  | succ r ih =>
    intro j n hj hn
    obtain ⟨n, rfl⟩ : ∃ n', n = n' + 1 := ⟨n - 1, by omega⟩
    have ih' := ih (j + 1) n (by omega) (by omega)
    rw [dct] at ih'
    rw [E_R_docked_4, B_R_docked_4, r_A0 hb, bo_some, r_a1 hb (by omega) (by omega), bo_some, if_neg (by rw [J_le] <;> omega), r_O hb, s_docK hb hV (by omega) (by omega), bc_some]
    simp only [jn_it1, J_0, J01_0, J_ite, J_add]
    rw [← ih']
    simp
theorem s_docked (hN : 2000 ≤ N) (hb : bOK Θ 9 m h) (hV : OKV (S 1)) : P_R_docked Θ N (HR Θ m S h) m = some (J (dct (S 1) (mny (S 1))), HR Θ m S h) := by
  unfold P_R_docked
  have hm := hV.2
  exact s_docked_L (K := fun h8 u9 => some (u9, h8)) hb hV (S 1 4).toNat 0 N (by omega) (by omega)
theorem s_blocks_L (hb : bOK Θ 9 m h) {K : mH → Int32 → Option (Int32 × mH)} : ∀ (r j n : Nat), j + r = 60 → r < n → P_R_blocks_4 Θ N K m n (HR Θ m S h) (J (blk (S 1) j)) (J j) = K (HR Θ m S h) (J (blk (S 1) 60)) := by
  intro r
  induction r with
  | zero =>
    intro j n hj hn
    obtain ⟨n, rfl⟩ : ∃ n', n = n' + 1 := ⟨n - 1, by omega⟩
    obtain rfl : j = 60 := by omega
    rw [E_R_blocks_4, B_R_blocks_4, if_pos (by rw [J_le] <;> omega)]
  | succ r ih =>
    intro j n hj hn
    obtain ⟨n, rfl⟩ : ∃ n', n = n' + 1 := ⟨n - 1, by omega⟩
    have ih' := ih (j + 1) n (by omega) (by omega)
    rw [blk] at ih'
    rw [E_R_blocks_4, B_R_blocks_4, if_neg (by rw [J_le] <;> omega), r_A0 hb, bo_some, J_add, r_a1 hb (by omega) (by omega), bo_some, J_add, J_add, ← ih']
    rfl
theorem s_blocks (hN : 2000 ≤ N) (hb : bOK Θ 9 m h) : P_R_blocks Θ N (HR Θ m S h) m = some (J (blk (S 1) 60), HR Θ m S h) := by
  unfold P_R_blocks
  exact s_blocks_L (K := fun h8 u9 => some (u9, h8)) hb 60 0 N (by omega) (by omega)
theorem s_isMetre {p : Int} (i1 : -2147483648 ≤ p) (i2 : p < 2147483648) : P_R_isMetre Θ N h (J p) = some (J (if 0 ≤ p ∧ p ≤ 59 then 1 else 0), h) := by
  unfold P_R_isMetre
  rw [s_isIn i1 i2 (by omega) (by omega) (by omega) (by omega), bc_some]
  split <;> simp
theorem s_isBlock (hb : bOK Θ 9 m h) (hV : OKV (S 1)) {p : Int} (i1 : -2147483648 ≤ p) (i2 : p < 2147483648) : P_R_isBlock Θ N (HR Θ m S h) m (J p) = some (J (if (0 ≤ p ∧ p ≤ 59) ∧ S 1 (80 + p) = 1 then 1 else 0), HR Θ m S h) := by
  unfold P_R_isBlock
  rw [s_isMetre i1 i2, bc_some]
  have b := hV.1 (80 + p)
  by_cases c : 0 ≤ p ∧ p ≤ 59
  · simp (disch := omega) only [c, and_self, true_and, if_true, J_0, J_eq, jn_it1, jn_it2, jn_eq, bo_some, bc_some, bx_inl, bx_inr, bn_some, bn_none, r_A0 hb, J_add, r_a1 hb]
    by_cases c2 : S 1 (80 + p) = 1 <;> simp [c2]
  · simp [c, J_0]
theorem s_beneath_L (hN : 2000 ≤ N) (hb : bOK Θ 9 m h) (hV : OKV (S 1)) {k : Int} (i1 : -1 ≤ k) (i2 : k ≤ 8) {K : mH → Int32 → Option (Int32 × mH)} : ∀ (r j n : Nat), j + r = 60 → r < n → P_R_beneath_4 Θ N K m (J k) n (HR Θ m S h) (J (bnt (S 1) k j)) (J j) = K (HR Θ m S h) (J (bnt (S 1) k 60)) := by
  intro r
  induction r with
  | zero =>
    intro j n hj hn
    obtain ⟨n, rfl⟩ : ∃ n', n = n' + 1 := ⟨n - 1, by omega⟩
    obtain rfl : j = 60 := by omega
    rw [E_R_beneath_4, B_R_beneath_4, if_pos (by rw [J_le] <;> omega)]
  | succ r ih =>
    intro j n hj hn
    obtain ⟨n, rfl⟩ : ∃ n', n = n' + 1 := ⟨n - 1, by omega⟩
    have ih' := ih (j + 1) n (by omega) (by omega)
    have b := at_le (S := S) hV (p := j)
    have hm := hV.2
    rw [bnt] at ih'
    rw [E_R_beneath_4, B_R_beneath_4, if_neg (by rw [J_le] <;> omega), r_O hb, s_at hN hb hV (by omega) (by omega), bc_some]
    simp (disch := omega) only [J_add, r_A0 hb, r_a1 hb, bo_some, jn_it1, J_ite, J_eq]
    rw [← ih']
    rfl
theorem s_beneath (hN : 2000 ≤ N) (hb : bOK Θ 9 m h) (hV : OKV (S 1)) {k : Int} (i1 : 0 ≤ k) (i2 : k ≤ 7) : P_R_beneath Θ N (HR Θ m S h) m (J k) = some (J (if fd (S 1) k 4 ≠ -1 then bnt (S 1) k 60 else 0), HR Θ m S h) := by
  unfold P_R_beneath
  refine (s_beneath_L hN hb hV (k := k) (by omega) (by omega) 60 0 N (by omega) (by omega)).trans ?_
  simp only [r_O hb]
  rw [s_docK hb hV i1 i2, bc_some]
  by_cases c : fd (S 1) k 4 = -1 <;> simp [c, J_0, J_eq]
theorem s_floatsK (hb : bOK Θ 9 m h) (hV : OKV (S 1)) {k : Int} (i1 : 0 ≤ k) (i2 : k ≤ 7) : P_R_floats Θ N (HR Θ m S h) m (J k) = some (J (if fd (S 1) k 4 = -1 ∨ fd (S 1) k 2 ≤ S 1 1 then 1 else 0), HR Θ m S h) := by
  unfold P_R_floats
  have b := hV.fd k 2
  have b1 := hV.1 1
  rw [r_O hb, s_docK hb hV i1 i2, bc_some]
  by_cases c : fd (S 1) k 4 = -1
  · simp [c, jn_eq, J_0]
  · simp (disch := omega) [c, jn_eq, J_0, J_eq, jn_it1, jn_it2, jn_eq, bo_some, bc_some, bx_inl, bx_inr, bn_some, bn_none, r_A0 hb, r_a1 hb, r_O hb, s_ofK hb, J_lt]
    by_cases c2 : fd (S 1) k 2 ≤ S 1 1
    · rw [if_neg (by omega), if_pos c2]
    · rw [if_pos (by omega), if_neg c2]
theorem s_floats0 (hb : bOK Θ 9 m h) : P_R_floats Θ N (HR Θ m S h) m (J (-1)) = some (J 1, HR Θ m S h) := by
  unfold P_R_floats
  rw [r_O hb, s_doc0 hb, bc_some, jn_eq, if_pos (show J 0 = (0 : Int32) from rfl)]
theorem s_sum_L (hb : bOK Θ 9 m h) (hV : OKV (S 1)) {i : Int} (i1 : 0 ≤ i) (i2 : i ≤ 8) {K : mH → Int32 → Option (Int32 × mH)} : ∀ (r j n : Nat), (j : Int) + r = S 1 4 → r < n → P_R_sum_4 Θ N K m (J i) n (HR Θ m S h) (J (smm (S 1) i j)) (J j) = K (HR Θ m S h) (J (smm (S 1) i (mny (S 1)))) := by
  intro r
  have hm := hV.2
  induction r with
  | zero =>
    intro j n hj hn
    obtain ⟨n, rfl⟩ : ∃ n', n = n' + 1 := ⟨n - 1, by omega⟩
    rw [E_R_sum_4, B_R_sum_4, r_A0 hb, bo_some, r_a1 hb (by omega) (by omega), bo_some, if_pos (by rw [J_le] <;> omega), show mny (S 1) = j by unfold mny; omega]
  | succ r ih =>
    intro j n hj hn
    obtain ⟨n, rfl⟩ : ∃ n', n = n' + 1 := ⟨n - 1, by omega⟩
    have ih' := ih (j + 1) n (by omega) (by omega)
    rw [smm] at ih'
    rw [E_R_sum_4, B_R_sum_4, r_A0 hb, bo_some, r_a1 hb (by omega) (by omega), bo_some, if_neg (by rw [J_le] <;> omega), r_O hb, s_ofK hb (by omega) (by omega) i1 i2, bc_some, J_add, J_add, ← ih']
    rfl
theorem s_sum (hN : 2000 ≤ N) (hb : bOK Θ 9 m h) (hV : OKV (S 1)) {i : Int} (i1 : 0 ≤ i) (i2 : i ≤ 8) : P_R_sum Θ N (HR Θ m S h) m (J i) = some (J (smm (S 1) i (mny (S 1))), HR Θ m S h) := by
  unfold P_R_sum
  have hm := hV.2
  exact s_sum_L (K := fun h8 u9 => some (u9, h8)) hb hV i1 i2 (S 1 4).toNat 0 N (by omega) (by omega)
theorem sea_le (t : Int) : 40 ≤ sea t ∧ sea t ≤ 160 := by
  unfold sea
  split <;> omega
theorem s_seaAt {t : Int} (h1 : 0 ≤ t) (h2 : t ≤ 100000000) : P_R_seaAt Θ N h (J t) = some (J (sea t), h) := by
  unfold P_R_seaAt sea
  simp (disch := omega) only [J_div, J_mul, J_sub, J_add, J_lt]
  rw [show t - t / 12 * 12 = t % 12 by omega]
  by_cases c : t % 12 ≤ 6
  · rw [if_neg (by omega), if_pos c]
  · rw [if_pos (by omega), if_neg c]
theorem s_levelThen (hb : bOK Θ 9 m h) (hV : OKV (S 1)) {a t : Int} (h1 : 0 ≤ t) (h2 : t < 100000000) (h3 : -1000000 ≤ a) (h4 : a < 1000000) : P_R_levelThen Θ N (HR Θ m S h) m (J a) (J t) = some (J (lvl (S 1) a t), HR Θ m S h) := by
  unfold P_R_levelThen lvl
  have b2 := hV.1 2
  have b3 := hV.1 3
  have b4 := sea_le t
  simp (disch := omega) only [jn_it1, jn_it2, jn_eq, bo_some, bc_some, bx_inl, bx_inr, bn_some, bn_none, r_A0 hb, r_a1 hb, J_0, J_eq, J_add, J_sub, J_mx, J_mn, s_seaAt]
  split <;> rfl
theorem s_charges (hb : bOK Θ 9 m h) {k c : Int} (h1 : 0 ≤ k) (h2 : k ≤ 7) : P_R_charges Θ N (HR Θ m S h) m (J k) (J c) = some ((), HR Θ m (up2 (up2 S 1 (8 + 9 * k + 8) (fd (S 1) k 8 + c)) 1 6 (S 1 6 + c)) h) := by
  unfold P_R_charges
  simp (disch := omega) only [jn_it1, jn_it2, jn_eq, bo_some, bc_some, bx_inl, bx_inr, bn_some, bn_none, r_A0 hb, s_place, r_a1 hb, r_w1 hb, J_add, Int.max_eq_right, up2_nj]
  rfl
end R2
