/-! the reference's small methods -/
section R1
variable {Θ : mW} {N m : Nat} {S : Nat → Int → Int} {h : mH}
theorem s_place {k i : Int} (h1 : -1 ≤ k) (h2 : k ≤ 8) (h3 : 0 ≤ i) (h4 : i ≤ 8) : P_R_place Θ N h (J k) (J i) = some (J (8 + 9 * max 0 k + i), h) := by
  unfold P_R_place
  simp (disch := omega) [J_add, J_sub, J_mul, J_neg, J_0, J_lt, J_le, J_eq, J_ite, J_mx]
theorem s_of (hb : bOK Θ 9 m h) {k i : Int} (h1 : -1 ≤ k) (h2 : k ≤ 7) (h3 : 0 ≤ i) (h4 : i ≤ 8) : P_R_of Θ N (HR Θ m S h) m (J k) (J i) = some (J (S 1 (8 + 9 * max 0 k + i)), HR Θ m S h) := by
  unfold P_R_of
  simp (disch := omega) [jn_it1, jn_it2, jn_eq, bo_some, bc_some, bx_inl, bx_inr, bn_some, bn_none, r_A0 hb, s_place, r_a1 hb]
theorem s_isIn {a b c : Int} (h1 : -2147483648 ≤ a) (h2 : a < 2147483648) (h3 : -2147483648 ≤ b) (h4 : b < 2147483648) (h5 : -2147483648 ≤ c) (h6 : c < 2147483648) : P_R_isIn Θ N h (J a) (J b) (J c) = some (J (if b ≤ a ∧ a ≤ c then 1 else 0), h) := by
  unfold P_R_isIn
  simp (disch := omega) only [J_add, J_sub, J_mul, J_neg, J_0, J_lt, J_le, J_eq, J_ite]
  by_cases c1 : a < b
  · rw [if_pos c1, if_neg (by omega)]
  · rw [if_neg c1]
    by_cases c2 : c < a
    · rw [if_pos c2, if_neg (by omega)]
    · rw [if_neg c2, if_pos (by omega)]
def thr (a b c d : Int) : Int := if a = 0 then 1 else if b = 0 then 2 else if c = 0 then 3 else if d = 0 then 4 else 0
theorem s_holds (hb : bOK Θ 9 m h) {a b c d : Int} (h1 : a = 0 ∨ a = 1) (h2 : b = 0 ∨ b = 1) (h3 : c = 0 ∨ c = 1) (h4 : d = 0 ∨ d = 1) : P_R_holds Θ N (HR Θ m S h) m (J a) (J b) (J c) (J d) = some (J (if thr a b c d = 0 then 1 else 0), HR Θ m (up2 S 0 13 (thr a b c d)) h) := by
  unfold P_R_holds thr
  rcases h1 with rfl | rfl <;> rcases h2 with rfl | rfl <;> rcases h3 with rfl | rfl <;> rcases h4 with rfl | rfl <;> simp (disch := omega) [jn_eq, jn_it1, jn_it2, jn_eq, bo_some, bc_some, bx_inl, bx_inr, bn_some, bn_none, J_add, J_sub, J_mul, J_neg, J_0, J_lt, J_le, J_eq, J_ite, r_W13 hb, r_I13 hb, up2_eq]
theorem s_goes (hb : bOK Θ 9 m h) {a : Int} (h1 : a = 0 ∨ a = 1) : P_R_goes Θ N (HR Θ m S h) m (J a) = some (J a, HR Θ m (up2 S 0 13 (1 - a)) h) := by
  unfold P_R_goes
  rcases h1 with rfl | rfl <;> simp (disch := omega) [jn_it1, jn_it2, jn_eq, bo_some, bc_some, bx_inl, bx_inr, bn_some, bn_none, J_add, J_sub, J_mul, J_neg, J_0, J_lt, J_le, J_eq, J_ite, s_holds hb, thr, r_O hb]
theorem s_isDocked (hb : bOK Θ 9 m h) {k : Int} (h1 : -1 ≤ k) (h2 : k ≤ 7) (h3 : -2147483648 ≤ S 1 (8 + 9 * max 0 k + 4)) (h4 : S 1 (8 + 9 * max 0 k + 4) < 2147483648) : P_R_isDocked Θ N (HR Θ m S h) m (J k) = some (J (if k ≠ -1 ∧ S 1 (8 + 9 * max 0 k + 4) ≠ -1 then 1 else 0), HR Θ m S h) := by
  unfold P_R_isDocked
  simp (disch := omega) only [jn_it1, jn_it2, jn_eq, bo_some, bc_some, bx_inl, bx_inr, bn_some, bn_none, J_add, J_sub, J_mul, J_neg, J_0, J_lt, J_le, J_eq, J_ite, s_of hb, r_O hb]
  by_cases c1 : k = -1
  · rw [if_pos c1, if_neg (by omega)]
  · rw [if_neg c1]
    by_cases c2 : S 1 (8 + 9 * max 0 k + 4) = -1
    · rw [if_pos c2, if_neg (by omega)]
    · rw [if_neg c2, if_pos (by omega)]
/-! copies -/
def cpy (S : Nat → Int → Int) (f : Nat) (a : Int) (t : Nat) (b n : Int) : Nat → Int → Int := fun i j => if i = t ∧ b ≤ j ∧ j < b + n then S f (a + (j - b)) else S i j
theorem cpy_at {f t i : Nat} {a b n j : Int} : cpy S f a t b n i j = if i = t ∧ b ≤ j ∧ j < b + n then S f (a + (j - b)) else S i j := rfl
theorem cpy_0 {f t : Nat} {a b : Int} : cpy S f a t b 0 = S := by
  funext i j
  rw [cpy_at, if_neg (by omega)]
theorem cpy_S {f t : Nat} {a b n : Int} (hft : f ≠ t) (hn : 0 ≤ n) : up2 (cpy S f a t b n) t (b + n) (S f (a + n)) = cpy S f a t b (n + 1) := by
  funext i j
  rw [up2_at, cpy_at, cpy_at]
  by_cases hj : i = t ∧ j = b + n
  · rw [if_pos hj, if_pos (by omega), show j - b = n by omega]
  · rw [if_neg hj]
    by_cases c : i = t ∧ b ≤ j ∧ j < b + n
    · rw [if_pos c, if_pos (by omega)]
    · rw [if_neg c, if_neg (by omega)]
theorem cpy_f {f t : Nat} {a b n j : Int} (hft : f ≠ t) : cpy S f a t b n f j = S f j := by
  rw [cpy_at, if_neg (by omega)]
/-- the length of an array of the reference -/
def lenR (i : Nat) : Int := match i with
  | 1 | 2 | 3 => 140
  | 4 => 1120
  | 5 => 60
  | 6 => 80
  | 8 => 120
  | _ => 0
theorem r_aX (hb : bOK Θ 9 m h) {i : Nat} {x : Int} (h0 : 0 ≤ x) (h1 : x < lenR i) : aR Θ (HR Θ m S h) 0 (m + i) (J x) = some (J (S i x)) := by
  unfold lenR at h1
  split at h1
  · exact r_a1 hb h0 h1
  · exact r_a2 hb h0 h1
  · exact r_a3 hb h0 h1
  · exact r_a4 hb h0 h1
  · exact r_a5 hb h0 h1
  · exact r_a6 hb h0 h1
  · exact r_a8 hb h0 h1
  · omega
theorem r_wX (hb : bOK Θ 9 m h) {i : Nat} {x v : Int} (h0 : 0 ≤ x) (h1 : x < lenR i) : aW Θ (HR Θ m S h) 0 (m + i) (J x) (J v) = some (HR Θ m (up2 S i x v) h) := by
  unfold lenR at h1
  split at h1
  · exact r_w1 hb h0 h1
  · exact r_w2 hb h0 h1
  · exact r_w3 hb h0 h1
  · exact r_w4 hb h0 h1
  · exact r_w5 hb h0 h1
  · exact r_w6 hb h0 h1
  · exact r_w8 hb h0 h1
  · omega
theorem s_copies_L (hb : bOK Θ 9 m h) {f t : Nat} {a b : Int} {K : mH → Option (Unit × mH)} (hft : f ≠ t) (h1 : 0 ≤ a) (h2 : a + 140 ≤ lenR f) (h3 : 0 ≤ b) (h4 : b + 140 ≤ lenR t) (hf : lenR f < 2000) (ht : lenR t < 2000) : ∀ (r : Nat) (j : Int) (n : Nat), 0 ≤ j → j + r = 140 → r < n → P_R_copies_3 Θ N K (m + f) (J a) (m + t) (J b) n (HR Θ m (cpy S f a t b j) h) (J j) = K (HR Θ m (cpy S f a t b 140) h) := by
  intro r
  induction r with
  | zero =>
    intro j n hj hr hn
    obtain ⟨n, rfl⟩ : ∃ n', n = n' + 1 := ⟨n - 1, by omega⟩
    unfold P_R_copies_3
    rw [lp_S]
    unfold B_R_copies_3
    obtain rfl : j = 140 := by omega
    rw [if_pos (by rw [J_le] <;> omega)]
  | succ r ih =>
    intro j n hj hr hn
    obtain ⟨n, rfl⟩ : ∃ n', n = n' + 1 := ⟨n - 1, by omega⟩
    unfold P_R_copies_3
    rw [lp_S]
    unfold B_R_copies_3
    rw [if_neg (by rw [J_le] <;> omega), J_add, J_add, J_add, r_aX hb (by omega) (by omega), bo_some, cpy_f hft, r_wX hb (by omega) (by omega), bo_some, cpy_S hft hj]
    exact ih (j + 1) n (by omega) (by omega) (by omega)
theorem s_copies (hN : 2000 ≤ N) (hb : bOK Θ 9 m h) {f t : Nat} {a b : Int} (hft : f ≠ t) (h1 : 0 ≤ a) (h2 : a + 140 ≤ lenR f) (h3 : 0 ≤ b) (h4 : b + 140 ≤ lenR t) (hf : lenR f < 2000) (ht : lenR t < 2000) : P_R_copies Θ N (HR Θ m S h) (m + f) (J a) (m + t) (J b) = some ((), HR Θ m (cpy S f a t b 140) h) := by
  unfold P_R_copies
  have := s_copies_L (N := N) (S := S) (K := fun h3 => some ((), h3)) hb hft h1 h2 h3 h4 hf ht 140 0 N (by omega) (by omega) (by omega)
  rw [cpy_0] at this
  exact this
theorem s_begins (hN : 2000 ≤ N) (hb : bOK Θ 9 m h) : P_R_begins Θ N (HR Θ m S h) m = some ((), HR Θ m (cpy S 1 0 2 0 140) h) := by
  unfold P_R_begins
  rw [r_A0 hb, bo_some, r_A1 hb, bo_some, s_copies hN hb (by omega) (by omega) (by decide) (by omega) (by decide) (by decide) (by decide)]
  rfl
end R1
