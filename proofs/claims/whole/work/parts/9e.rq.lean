/-! the reference reads commands -/
def st3 (S : Nat → Int → Int) (w p : Int) : Nat → Int → Int := up2 (up2 S 0 17 w) 0 16 p
/-- number, numberBehind: what goes wrong, where it stands, the value -/
def nr (τ : Int → Int) (n w p : Int) : Int × Int × Int := if w ≠ -1 then (w, p, 0) else if (nmv τ n 3 0 p).2 = p then (p, p, 0) else (-1, (nmv τ n 3 0 p).2, (nmv τ n 3 0 p).1)
def nbr (τ : Int → Int) (n c w p : Int) : Int × Int × Int := if w ≠ -1 then (w, p, 0) else if p < n ∧ τ p = c then nr τ n (-1) (p + 1) else (p, p, 0)
def sof (w : Nat) : Int := ([0, 5, 11, 17, 23, 28, 32, 37, 42, 47, 53, 61, 65] : List Int).getD w 65
theorem sof_len : ∀ w : Fin 12, sof (w + 1) - sof w = (kw w).length ∧ 0 ≤ sof w ∧ sof w + (kw w).length ≤ 65 := by decide +kernel
theorem sof_kw : ∀ w : Fin 12, ((mTx.getD 12 []).drop (sof w).toNat).take (kw w).length = kw w := by decide +kernel
section RQ
variable {Θ : mW} {N m : Nat} {S : Nat → Int → Int} {h : mH}
theorem st_st {w p w2 p2 : Int} : st3 (st3 S w p) w2 p2 = st3 S w2 p2 := by
  unfold st3
  funext a j
  simp only [up2_at]
  repeat' split
  all_goals first | rfl | omega
theorem st_self : st3 S (S 0 17) (S 0 16) = S := by
  unfold st3
  rw [rup2_self]
  have : up2 S 0 16 (S 0 16) = S := rup2_self
  exact this
theorem st_16 {w p p2 : Int} : up2 (st3 S w p) 0 16 p2 = st3 S w p2 := by unfold st3; rw [up2_2]
theorem st_17 {w p w2 : Int} : up2 (st3 S w p) 0 17 w2 = st3 S w2 p := by
  unfold st3
  funext a j
  simp only [up2_at]
  repeat' split
  all_goals first | rfl | omega
theorem st_w {w p : Int} : st3 S w p 0 17 = w := by unfold st3; rw [up2_nj (by omega), up2_eq]
theorem st_p {w p : Int} : st3 S w p 0 16 = p := by unfold st3; rw [up2_eq]
theorem st_r {w p : Int} {a : Nat} (ha : a ≠ 0) : st3 S w p a = S a := by unfold st3; rw [up2_row ha, up2_row ha]
theorem st_o {w p j : Int} (h1 : j ≠ 16) (h2 : j ≠ 17) : st3 S w p 0 j = S 0 j := by unfold st3; rw [up2_nj h1, up2_nj h2]
/-- the text as it is read -/
def RT (S : Nat → Int → Int) (n : Int) : Prop := S 0 15 = n ∧ (0 ≤ n ∧ n ≤ 60) ∧ ∀ j : Int, 0 ≤ j → j < n → 0 ≤ S 5 j ∧ S 5 j < 128
theorem RT.st {n w p : Int} (r : RT S n) : RT (st3 S w p) n := by
  obtain ⟨a, b, c⟩ := r
  exact ⟨by rw [st_o (by omega) (by omega)]; exact a, b, by rw [st_r (by omega)]; exact c⟩
variable {n : Int}
theorem s_letter (hb : bOK Θ 9 m h) (r : RT S n) {w p : Int} (p0 : 0 ≤ p) (p1 : p ≤ 60) : P_R_letterHere Θ N (HR Θ m (st3 S w p) h) m = some (J (if p < n then S 5 p else -1), HR Θ m (st3 S w p) h) := by
  obtain ⟨a, b, c⟩ := r
  unfold P_R_letterHere
  rw [r_I16 hb, bo_some, r_I15 hb, bo_some, st_p, st_o (by omega) (by omega), a]
  by_cases d : p < n
  · rw [if_neg (by rw [J_le] <;> omega), if_pos d, r_A9 hb, bo_some, bo_some, r_a5 hb (by omega) (by omega), bo_some, st_r (by omega)]
  · rw [if_pos (by rw [J_le] <;> omega), if_neg d]
theorem s_reads (hb : bOK Θ 9 m h) (r : RT S n) {w p a b : Int} (p0 : 0 ≤ p) (p1 : p ≤ 60) (w0 : -1 ≤ w) (w1 : w ≤ 100) (a0 : 0 ≤ a) (a1 : a < 128) (b0 : 0 ≤ b) (b1 : b < 128) : P_R_reads Θ N (HR Θ m (st3 S w p) h) m (J a) (J b) = if w = -1 ∧ p < n ∧ a ≤ S 5 p ∧ S 5 p ≤ b then some (J (S 5 p - a), HR Θ m (st3 S w (p + 1)) h) else some (J 0, HR Θ m (st3 S (if w = -1 then p else w) p) h) := by
  have e := s_letter (N := N) hb r (w := w) p0 p1
  obtain ⟨ra1, rb, rc⟩ := r
  unfold P_R_reads
  rw [r_I17 hb, bo_some, st_w, jn_eq]
  by_cases c : w = -1
  · rw [if_pos (by rw [c]), r_O hb, e, bc_some]
    by_cases d : p < n
    · have l := rc p p0 d
      rw [if_pos d, s_isIn (by omega) (by omega) (by omega) (by omega) (by omega) (by omega), bc_some]
      by_cases f : a ≤ S 5 p ∧ S 5 p ≤ b
      · rw [if_pos f, if_neg (show ¬ J 1 = (0 : Int32) by decide), if_pos ⟨c, d, f⟩, r_I16 hb, bo_some, st_p, J_add, r_W16 hb, bo_some, st_16, r_A9 hb, bo_some, r_I16 hb, bo_some, st_p, J_sub, show p + 1 - 1 = p by omega, r_a5 hb p0 (by omega), bo_some, st_r (by omega), J_sub]
      · rw [if_neg f, if_pos (show J 0 = (0 : Int32) from rfl), if_neg (fun z => f z.2.2), if_pos c]
        dsimp only
        rw [r_I17 hb, bo_some, st_w, if_pos (by rw [c]), r_I16 hb, bo_some, st_p, r_W17 hb, bo_some, st_17]
    · rw [if_neg d, s_isIn (by omega) (by omega) (by omega) (by omega) (by omega) (by omega), bc_some, if_neg (show ¬ (a ≤ -1 ∧ -1 ≤ b) by omega), if_pos (show J 0 = (0 : Int32) from rfl), if_neg (fun z => d z.2.1), if_pos c]
      dsimp only
      rw [r_I17 hb, bo_some, st_w, if_pos (by rw [c]), r_I16 hb, bo_some, st_p, r_W17 hb, bo_some, st_17]
  · rw [if_neg (by rw [J_eq] <;> omega), if_neg (fun z => c z.1), if_neg c]
    dsimp only
    rw [r_I17 hb, bo_some, st_w, if_neg (by rw [J_eq] <;> omega), bo_some, r_W17 hb, bo_some, st_17]
theorem s_num_L (hb : bOK Θ 9 m h) (r : RT S n) {K : mH → Int32 → Option (Int32 × mH)} : ∀ (k : Nat) (v p : Int) (f : Nat), k ≤ 3 → 0 ≤ p → p + k ≤ 70 → p ≤ n → k < f → P_R_number_11 Θ N K m f (HR Θ m (st3 S (-1) p) h) (J v) (J (3 - k)) = K (HR Θ m (st3 S (-1) (nmv (S 5) n k v p).2) h) (J (nmv (S 5) n k v p).1) := by
  intro k
  have rr := r
  obtain ⟨ra1, rb, rc⟩ := r
  induction k with
  | zero =>
    intro v p f k3 p0 p1 pn hf
    obtain ⟨f, rfl⟩ : ∃ n', f = n' + 1 := ⟨f - 1, by omega⟩
    rw [E_R_number_11, B_R_number_11, if_pos (by rw [J_le] <;> omega), nmv]
  | succ k ih =>
    intro v p f k3 p0 p1 pn hf
    obtain ⟨f, rfl⟩ : ∃ n', f = n' + 1 := ⟨f - 1, by omega⟩
    rw [E_R_number_11, B_R_number_11, if_neg (by rw [J_le] <;> omega), r_I17 hb, bo_some, st_w, if_pos rfl, r_O hb, s_letter hb rr p0 (by omega), bc_some, nmv]
    by_cases d : p < n
    · have l := rc p p0 d
      rw [if_pos d, s_isIn (by omega) (by omega) (by omega) (by omega) (by omega) (by omega), bc_some]
      by_cases g : 48 ≤ S 5 p ∧ S 5 p ≤ 57
      · rw [if_pos g, if_neg (show ¬ J 1 = (0 : Int32) by decide), if_pos ⟨d, g⟩, r_O hb, s_reads hb rr p0 (by omega) (by omega) (by omega) (by omega) (by omega) (by omega) (by omega), if_pos ⟨rfl, d, g⟩, bc_some, J_mul, J_add, J_add, show (3 : Int) - ((k + 1 : Nat) : Int) + 1 = 3 - k by omega, show 10 * v + (S 5 p - 48) = v * 10 + (S 5 p - 48) by omega]
        exact ih _ (p + 1) f (by omega) (by omega) (by omega) (by omega) (by omega)
      · rw [if_neg g, if_pos (show J 0 = (0 : Int32) from rfl), if_neg (fun z => g z.2)]
    · rw [if_neg d, s_isIn (by omega) (by omega) (by omega) (by omega) (by omega) (by omega), bc_some, if_neg (show ¬ ((48 : Int) ≤ -1 ∧ (-1 : Int) ≤ 57) by omega), if_pos (show J 0 = (0 : Int32) from rfl), if_neg (fun z => d z.1)]
theorem nr_rng {w p : Int} (p0 : 0 ≤ p) (p1 : p ≤ n) (w0 : -1 ≤ w) (w1 : w ≤ n) : (-1 ≤ (nr (S 5) n w p).1 ∧ (nr (S 5) n w p).1 ≤ n) ∧ (p ≤ (nr (S 5) n w p).2.1 ∧ (nr (S 5) n w p).2.1 ≤ n) := by
  have g := nmv_ge (τ := S 5) (n := n) 3 0 p
  unfold nr
  split
  · dsimp only; omega
  · split
    · dsimp only; omega
    · dsimp only; omega
theorem s_number (hN : 2000 ≤ N) (hb : bOK Θ 9 m h) (r : RT S n) {w p : Int} (p0 : 0 ≤ p) (p1 : p ≤ n) (w0 : -1 ≤ w) (w1 : w ≤ n) : P_R_number Θ N (HR Θ m (st3 S w p) h) m = some (J (nr (S 5) n w p).2.2, HR Θ m (st3 S (nr (S 5) n w p).1 (nr (S 5) n w p).2.1) h) := by
  have n60 := r.2.1
  have stop : ∀ (x : Int) (w' p' : Int), -1 < w' → w' ≤ 100 → P_R_number_11 Θ N (fun h10 u11 => (some (u11, h10))) m N (HR Θ m (st3 S w' p') h) (J x) (J 1) = some (J x, HR Θ m (st3 S w' p') h) := by
    intro x w' p' a b
    obtain ⟨f, rfl⟩ : ∃ n', N = n' + 1 := ⟨N - 1, by omega⟩
    rw [E_R_number_11, B_R_number_11, if_neg (by rw [J_le] <;> omega), r_I17 hb, bo_some, st_w, if_neg (by rw [J_eq] <;> omega)]
  unfold P_R_number nr
  rw [r_O hb, s_reads hb r p0 (by omega) w0 (by omega) (by omega) (by omega) (by omega) (by omega)]
  by_cases c : w = -1
  · subst c
    rw [if_neg (show ¬ (-1 : Int) ≠ -1 by omega)]
    have e0 : nmv (S 5) n 3 0 p = if p < n ∧ 48 ≤ S 5 p ∧ S 5 p ≤ 57 then nmv (S 5) n 2 (0 * 10 + (S 5 p - 48)) (p + 1) else (0, p) := rfl
    by_cases d : p < n ∧ 48 ≤ S 5 p ∧ S 5 p ≤ 57
    · have g := nmv_ge (τ := S 5) (n := n) 2 (0 * 10 + (S 5 p - 48)) (p + 1)
      have l := s_num_L (Θ := Θ) (N := N) (K := fun h10 u11 => some (u11, h10)) hb r 2 (S 5 p - 48) (p + 1) N (by omega) (by omega) (by omega) (by omega) (by omega)
      rw [if_pos ⟨rfl, d⟩, bc_some, e0, if_pos d, if_neg (by omega)]
      refine (show _ = _ from l).trans ?_
      rw [show (0 : Int) * 10 + (S 5 p - 48) = S 5 p - 48 by omega]
    · rw [if_neg (fun z => d z.2), bc_some, e0, if_neg d, if_pos rfl, if_pos rfl]
      exact stop 0 p p (by omega) (by omega)
  · rw [if_neg (fun z => c z.1), bc_some, if_pos c, if_neg c]
    exact stop 0 w p (by omega) (by omega)
theorem nbr_rng {c w p : Int} (p0 : 0 ≤ p) (p1 : p ≤ n) (w0 : -1 ≤ w) (w1 : w ≤ n) : (-1 ≤ (nbr (S 5) n c w p).1 ∧ (nbr (S 5) n c w p).1 ≤ n) ∧ (p ≤ (nbr (S 5) n c w p).2.1 ∧ (nbr (S 5) n c w p).2.1 ≤ n) := by
  unfold nbr
  split
  · dsimp only; omega
  · split
    · have := nr_rng (S := S) (n := n) (w := -1) (p := p + 1) (by omega) (by omega) (by omega) (by omega)
      omega
    · dsimp only; omega
theorem s_behind (hN : 2000 ≤ N) (hb : bOK Θ 9 m h) (r : RT S n) {c w p : Int} (p0 : 0 ≤ p) (p1 : p ≤ n) (w0 : -1 ≤ w) (w1 : w ≤ n) (c0 : 0 ≤ c) (c1 : c < 128) : P_R_numberBehind Θ N (HR Θ m (st3 S w p) h) m (J c) = some (J (nbr (S 5) n c w p).2.2, HR Θ m (st3 S (nbr (S 5) n c w p).1 (nbr (S 5) n c w p).2.1) h) := by
  have n60 := r.2.1
  unfold P_R_numberBehind nbr
  rw [r_O hb, s_reads hb r p0 (by omega) w0 (by omega) c0 c1 c0 c1]
  by_cases d : w = -1
  · subst d
    rw [if_neg (show ¬ (-1 : Int) ≠ -1 by omega)]
    by_cases f : p < n ∧ S 5 p = c
    · rw [if_pos ⟨rfl, f.1, by omega, by omega⟩, bc_some, if_pos f, r_O hb, s_number hN hb r (by omega) (by omega) (by omega) (by omega), bc_some]
    · rw [if_neg (fun z => f ⟨z.2.1, by omega⟩), bc_some, if_neg f, if_pos rfl, r_O hb, s_number hN hb r p0 p1 (by omega) (by omega), bc_some]
      unfold nr
      rw [if_pos (by omega)]
  · rw [if_neg (fun z => d z.1), bc_some, if_pos d, if_neg d, r_O hb, s_number hN hb r p0 p1 w0 w1, bc_some]
    unfold nr
    rw [if_pos d]
/-! which word -/
theorem s_start {w : Nat} (hw : w ≤ 12) : P_R_startOf Θ N h (J w) = some (J (sof w), h) := by
  have : w = 0 ∨ w = 1 ∨ w = 2 ∨ w = 3 ∨ w = 4 ∨ w = 5 ∨ w = 6 ∨ w = 7 ∨ w = 8 ∨ w = 9 ∨ w = 10 ∨ w = 11 ∨ w = 12 := by omega
  rcases this with rfl | rfl | rfl | rfl | rfl | rfl | rfl | rfl | rfl | rfl | rfl | rfl | rfl <;> rfl
theorem nm_w : oS 38 = some 38 ∧ oC 38 = some 0 ∧ oV 38 = some 39 ∧ oBn 39 = some (65, mLet 12) := ⟨rfl, rfl, rfl, rfl⟩
theorem nm_char {j : Int} (j0 : 0 ≤ j) (j1 : j < 65) : P_ST_charAt Θ N h 38 (J j) = some (J (mLet 12 j.toNat), h) :=
  st_charAt nm_w.1 nm_w.2.1 nm_w.2.2.1 nm_w.2.2.2 (by omega) (fun j _ => let_lt' (by omega)) j0 j1
theorem nm_kw {w k : Nat} (hw : w < 12) (hk : k < (kw w).length) : mLet 12 (sof w + k).toNat = (kw w).getD k 0 := by
  have a := sof_kw ⟨w, hw⟩
  have b := sof_len ⟨w, hw⟩
  simp only at a b
  unfold mLet
  generalize mTx.getD 12 [] = L at a ⊢
  have a2 : ((L.drop (sof w).toNat).take (kw w).length)[k]? = (kw w)[k]? := by rw [a]
  rw [List.getElem?_take_of_lt hk, List.getElem?_drop] at a2
  rw [show (sof w + (k : Int)).toNat = (sof w).toNat + k by omega, List.getD_eq_getElem?_getD, List.getD_eq_getElem?_getD, a2]
theorem s_kind_L (hb : bOK Θ 9 m h) (r : RT S n) {w : Nat} (hw : w < 12) {wr p : Int} (p0 : 0 ≤ p) (p1 : p ≤ n) {f1 f2 : Int32} {K : mH → Int32 → Option (Int32 × mH)} : ∀ (q k f : Nat), k + q = (kw w).length → q < f → P_R_kindHere_36 Θ N K m f1 f2 (J w) (J (kw w).length) f (HR Θ m (st3 S wr p) h) (J k) = K (HR Θ m (st3 S wr p) h) (J ((k + lcp (S 5) n ((kw w).drop k) (p + k) : Nat) : Int)) := by
  intro q
  have b := sof_len ⟨w, hw⟩
  have kl := kw_len ⟨w, hw⟩
  simp only at b kl
  obtain ⟨ra1, rb, rc⟩ := r
  induction q with
  | zero =>
    intro k f hk hf
    obtain ⟨f, rfl⟩ : ∃ n', f = n' + 1 := ⟨f - 1, by omega⟩
    rw [E_R_kindHere_36, B_R_kindHere_36, if_pos (by rw [J_le] <;> omega), List.drop_eq_nil_of_le (by omega), lcp]
    rfl
  | succ q ih =>
    intro k f hk hf
    obtain ⟨f, rfl⟩ : ∃ n', f = n' + 1 := ⟨f - 1, by omega⟩
    have ed := drop_getD (kw w) k (by omega)
    have ec := nm_kw (w := w) (k := k) hw (by omega)
    have lt : (kw w).getD k 0 < 128 := by rw [← ec]; exact let_lt' (by omega)
    have e1 : (k : Int) + 1 = ((k + 1 : Nat) : Int) := by omega
    rw [E_R_kindHere_36, B_R_kindHere_36, if_neg (by rw [J_le] <;> omega), r_I16 hb, bo_some, r_I15 hb, bo_some, st_p, st_o (by omega) (by omega), ra1, J_add, ed]
    generalize (kw w).getD k 0 = a at ec lt ⊢
    rw [lcp]
    by_cases d : p + k < n
    · have l := rc (p + k) (by omega) d
      rw [if_neg (by rw [J_le] <;> omega), r_A9 hb, bo_some, bo_some, J_add, r_a5 hb (by omega) (by omega), bo_some, st_r (by omega), s_start (by omega), bc_some, nm_w.1, bo_some, J_add, nm_char (by omega) (by omega), bc_some, ec]
      by_cases f5 : S 5 (p + k) = a
      · rw [if_pos (by rw [f5]), if_pos ⟨d, f5⟩, J_add, e1, show p + (k : Int) + 1 = p + ((k + 1 : Nat) : Int) by omega, show k + (lcp (S 5) n ((kw w).drop (k + 1)) (p + ((k + 1 : Nat) : Int)) + 1) = k + 1 + lcp (S 5) n ((kw w).drop (k + 1)) (p + ((k + 1 : Nat) : Int)) by omega]
        exact ih (k + 1) f (by omega) (by omega)
      · rw [if_neg (by rw [J_eq] <;> omega), if_neg (fun z => f5 z.2)]
        rfl
    · rw [if_pos (by rw [J_le] <;> omega), if_neg (fun z => d z.1)]
      rfl
theorem s_kinds_L (hN : 2000 ≤ N) (hb : bOK Θ 9 m h) (r : RT S n) {wr p : Int} (p0 : 0 ≤ p) (p1 : p ≤ n) {K : mH → Int32 → Int32 → Option (Int32 × mH)} : ∀ (q i f : Nat) (far : Int), i + q = 12 → p ≤ far → far ≤ n → q + 1 < f → ∃ far2 : Int, P_R_kindHere_9 Θ N K m f (HR Θ m (st3 S wr p) h) (J far) (J (-1)) (J i) = K (HR Θ m (st3 S wr p) h) (J far2) (J (match kfd (S 5) n p q i with | none => -1 | some k => (k : Int))) ∧ (kfd (S 5) n p q i = none → far2 = kfx (S 5) n p q i far) := by
  intro q
  have n60 := r.2.1
  induction q with
  | zero =>
    intro i f far hi f1 f2 hf
    obtain ⟨f, rfl⟩ : ∃ n', f = n' + 1 := ⟨f - 1, by omega⟩
    rw [E_R_kindHere_9, B_R_kindHere_9, if_pos (by rw [J_le] <;> omega)]
    exact ⟨far, rfl, fun _ => rfl⟩
  | succ q ih =>
    intro i f far hi f1 f2 hf
    obtain ⟨f, rfl⟩ : ∃ n', f = n' + 1 := ⟨f - 1, by omega⟩
    have b := sof_len ⟨i, by omega⟩
    have kl := kw_len ⟨i, by omega⟩
    simp only at b kl
    have l1 := lcp_le (τ := S 5) (n := n) (kw i) p
    have l2 := lcp_n (τ := S 5) (n := n) (kw i) p p1
    have e1 : (i : Int) + 1 = ((i + 1 : Nat) : Int) := by omega
    rw [E_R_kindHere_9, B_R_kindHere_9, if_neg (by rw [J_le] <;> omega), if_pos rfl, J_add, e1, s_start (by omega), bc_some, s_start (by omega), bc_some, J_sub, b.1, kfd, kfx]
    have go := fun K => s_kind_L (Θ := Θ) (N := N) (h := h) (K := K) (f1 := J far) (f2 := J (-1)) hb r (w := i) (by omega) (wr := wr) p0 p1 (kw i).length 0 N (by omega) (by omega)
    rw [List.drop_zero, show p + ((0 : Nat) : Int) = p by omega, Nat.zero_add] at go
    rw [show J 0 = J ((0 : Nat) : Int) from rfl, go, r_I16 hb, bo_some, st_p, jn_eq]
    by_cases c : lcp (S 5) n (kw i) p = (kw i).length
    · rw [if_pos (by rw [c]), if_pos c]
      dsimp only
      obtain ⟨f, rfl⟩ : ∃ n', f = n' + 1 := ⟨f - 1, by omega⟩
      rw [J_add, J_mx (by omega) (by omega) (by omega) (by omega), E_R_kindHere_9, B_R_kindHere_9, if_neg (show ¬ J (i : Int) = J (-1) by rw [J_eq] <;> omega)]
      refine ⟨max far (p + lcp (S 5) n (kw i) p), ?_, fun z => by cases z⟩
      split <;> rfl
    · rw [if_neg (by rw [J_eq] <;> omega), if_neg c]
      dsimp only
      rw [J_add, J_mx (by omega) (by omega) (by omega) (by omega)]
      exact ih (i + 1) f (max far (p + lcp (S 5) n (kw i) p)) (by omega) (by omega) (by omega) (by omega)
/-- which word stands here -/
def kd (τ : Int → Int) (n p : Int) : Int := match kfd τ n p 12 0 with | none => -1 | some k => (k : Int)
theorem s_kindHere (hN : 2000 ≤ N) (hb : bOK Θ 9 m h) (r : RT S n) {p : Int} (p0 : 0 ≤ p) (p1 : p ≤ n) : P_R_kindHere Θ N (HR Θ m (st3 S (-1) p) h) m = some (J (kd (S 5) n p), HR Θ m (match kfd (S 5) n p 12 0 with | none => st3 S (kfx (S 5) n p 12 0 p) p | some k => st3 S (-1) (p + (kw k).length)) h) := by
  have n60 := r.2.1
  unfold P_R_kindHere kd
  rw [r_I16 hb, bo_some, st_p]
  obtain ⟨far, e, g⟩ := s_kinds_L (Θ := Θ) (N := N) (h := h) (wr := -1) (K := (fun h21 u22 u23 => (jn (fun (h25 : mH) (s26 : Int32) => (bo (wF Θ h25 9 m 17 (.int s26)) (fun h27 => (bo (rI Θ h27 9 m 16) (fun v28 => (if u23 = (J (-1)) then (bo (wF Θ h27 9 m 16 (.int (v28 + (J 0)))) (fun h34 => (some (u23, h34)))) else (bc (P_R_startOf Θ N h27 (u23 + (J 1))) (fun v30 h29 => (bc (P_R_startOf Θ N h29 u23) (fun v32 h31 => (bo (wF Θ h31 9 m 16 (.int (v28 + (v30 - v32)))) (fun h33 => (some (u23, h33)))))))))))))) (fun j24 => (if u23 = (J (-1)) then (j24 h21 u22) else (bo (rI Θ h21 9 m 17) (fun v35 => (j24 h21 v35)))))))) hN hb r p0 p1 12 0 N p (by omega) (Int.le_refl _) p1 (by omega)
  refine (show _ = _ from e).trans ?_
  rw [jn_eq]
  cases ek : kfd (S 5) n p 12 0 with
  | none =>
    dsimp only
    rw [if_pos rfl, r_W17 hb, bo_some, st_17, r_I16 hb, bo_some, st_p, if_pos rfl, J_add, r_W16 hb, bo_some, st_16, g ek, show p + 0 = p by omega]
  | some k =>
    obtain ⟨a, -⟩ := kfd_some 12 0 ek
    have b := sof_len ⟨k, by omega⟩
    simp only at b
    dsimp only
    rw [if_neg (show ¬ J (k : Int) = J (-1) by rw [J_eq] <;> omega), r_I17 hb, bo_some, st_w, r_W17 hb, bo_some, st_17, r_I16 hb, bo_some, st_p, if_neg (show ¬ J (k : Int) = J (-1) by rw [J_eq] <;> omega), J_add, show (k : Int) + 1 = ((k + 1 : Nat) : Int) by omega, s_start (by omega), bc_some, s_start (by omega), bc_some, J_sub, J_add, r_W16 hb, bo_some, st_16, b.1]
end RQ
