/-! the reference's changes (but for the hours) -/
theorem OKV.up {V : Int → Int} {k v : Int} (h : OKV V) (hk : k ≠ 4) (h1 : -100000000 ≤ v) (h2 : v ≤ 100000000) : OKV (up1 V k v) := by
  refine ⟨fun j => ?_, ?_⟩
  · unfold up1
    split
    · omega
    · exact h.1 j
  · unfold up1
    rw [if_neg (by omega)]
    exact h.2
theorem up2_1 {S : Nat → Int → Int} {k v : Int} : up2 S 1 k v 1 = up1 (S 1) k v := by unfold up2; rw [if_pos rfl]
theorem up1_at {V : Int → Int} {k v j : Int} : up1 V k v j = if j = k then v else V j := rfl
theorem up1_nj {V : Int → Int} {k v j : Int} (h : j ≠ k) : up1 V k v j = V j := by rw [up1_at, if_neg h]
theorem up1_eq {V : Int → Int} {k v : Int} : up1 V k v k = v := by rw [up1_at, if_pos rfl]
section R3
variable {Θ : mW} {N m : Nat} {S : Nat → Int → Int} {h : mH}
/-- thrown -/
def T13 (S : Nat → Int → Int) (v : Int) : Nat → Int → Int := up2 S 0 13 v
theorem T13_1 {v : Int} : T13 S v 1 = S 1 := up2_row (by omega)
theorem T13_2 {v w : Int} : T13 (T13 S v) w = T13 S w := up2_2
theorem T13_t {v : Int} : T13 S v 0 13 = v := up2_eq
theorem s_holdsT (hb : bOK Θ 9 m h) {a b c d : Int} (h1 : a = 0 ∨ a = 1) (h2 : b = 0 ∨ b = 1) (h3 : c = 0 ∨ c = 1) (h4 : d = 0 ∨ d = 1) : P_R_holds Θ N (HR Θ m S h) m (J a) (J b) (J c) (J d) = some (J (if thr a b c d = 0 then 1 else 0), HR Θ m (T13 S (thr a b c d)) h) := s_holds hb h1 h2 h3 h4
theorem s_goesT (hb : bOK Θ 9 m h) {a : Int} (h1 : a = 0 ∨ a = 1) : P_R_goes Θ N (HR Θ m S h) m (J a) = some (J a, HR Θ m (T13 S (1 - a)) h) := s_goes hb h1
theorem r_T13 (hb : bOK Θ 9 m h) {v : Int} : rI Θ (HR Θ m (T13 S v) h) 9 m 13 = some (J v) := by rw [r_I13 hb, T13_t]
def zer (S : Nat → Int → Int) (b n : Int) : Nat → Int → Int := fun a j => if a = 1 ∧ b ≤ j ∧ j < b + n then 0 else S a j
theorem zer_at {b n j : Int} {a : Nat} : zer S b n a j = if a = 1 ∧ b ≤ j ∧ j < b + n then 0 else S a j := rfl
theorem zer_0 {b : Int} : zer S b 0 = S := by
  funext a j
  rw [zer_at, if_neg (by omega)]
theorem zer_S {b n : Int} (hn : 0 ≤ n) : up2 (zer S b n) 1 (b + n) 0 = zer S b (n + 1) := by
  funext a j
  rw [up2_at, zer_at, zer_at]
  by_cases c : a = 1 ∧ j = b + n
  · rw [if_pos c, if_pos (by omega)]
  · rw [if_neg c]
    by_cases d : a = 1 ∧ b ≤ j ∧ j < b + n
    · rw [if_pos d, if_pos (by omega)]
    · rw [if_neg d, if_neg (by omega)]
theorem s_zero_L (hb : bOK Θ 9 m h) {k : Int} (h1 : 0 ≤ k) (h2 : k ≤ 7) {a1 a2 a3 : Int32} {K : mH → Option (Int32 × mH)} : ∀ (r : Nat) (j : Int) (n : Nat), 0 ≤ j → j + r = 9 → r < n → P_R_adds_77 Θ N K m a1 a2 a3 (J k) n (HR Θ m (zer S (8 + 9 * k) j) h) (J j) = K (HR Θ m (zer S (8 + 9 * k) 9) h) := by
  intro r
  induction r with
  | zero =>
    intro j n hj hr hn
    obtain ⟨n, rfl⟩ : ∃ n', n = n' + 1 := ⟨n - 1, by omega⟩
    obtain rfl : j = 9 := by omega
    rw [E_R_adds_77, B_R_adds_77, if_pos (by rw [J_le] <;> omega)]
  | succ r ih =>
    intro j n hj hr hn
    obtain ⟨n, rfl⟩ : ∃ n', n = n' + 1 := ⟨n - 1, by omega⟩
    rw [E_R_adds_77, B_R_adds_77, if_neg (by rw [J_le] <;> omega), r_A0 hb, bo_some, s_place (by omega) (by omega) (by omega) (by omega), bc_some, r_w1 hb (by omega) (by omega), bo_some, J_add, Int.max_eq_right h1, zer_S hj]
    exact ih (j + 1) n (by omega) (by omega) (by omega)
/-- addShip -/
def addR (S : Nat → Int → Int) (l d t : Int) : Int × (Nat → Int → Int) :=
  if ¬ ((5 ≤ l ∧ l ≤ 30) ∧ (5 ≤ d ∧ d ≤ 80) ∧ (0 ≤ t ∧ t ≤ 99)) then (0, T13 S 1)
  else if 8 ≤ S 1 4 then (0, T13 S 2)
  else (S 1 5, up2 (up2 (up2 (up2 (up2 (up2 (up2 (zer (T13 S 0) (8 + 9 * S 1 4) 9) 1 (8 + 9 * S 1 4 + 0) (S 1 5)) 1 (8 + 9 * S 1 4 + 1) l) 1 (8 + 9 * S 1 4 + 2) d) 1 (8 + 9 * S 1 4 + 3) t) 1 (8 + 9 * S 1 4 + 4) (-1)) 1 4 (S 1 4 + 1)) 1 5 (S 1 5 + 1))
theorem s_adds (hN : 2000 ≤ N) (hb : bOK Θ 9 m h) (hV : OKV (S 1)) {l d t : Int} (i1 : -2147483648 ≤ l) (i2 : l < 2147483648) (i3 : -2147483648 ≤ d) (i4 : d < 2147483648) (i5 : -2147483648 ≤ t) (i6 : t < 2147483648) : P_R_adds Θ N (HR Θ m S h) m (J l) (J d) (J t) = some (J (addR S l d t).1, HR Θ m (addR S l d t).2 h) := by
  unfold P_R_adds addR
  have hm := hV.2
  have b5 := hV.1 5
  simp (disch := omega) only [s_isIn, bc_some, J_0, J01_0, ite_not]
  by_cases c1 : (5 ≤ l ∧ l ≤ 30) ∧ (5 ≤ d ∧ d ≤ 80) ∧ (0 ≤ t ∧ t ≤ 99)
  · obtain ⟨a1, a2, a3⟩ := c1
    simp only [a1, a2, a3, and_self, if_true, not_true_eq_false, if_false, jn_eq, r_A0 hb, bo_some]
    by_cases c2 : 8 ≤ S 1 4
    · simp (disch := first | omega | exact it01) [r_a1 hb, bo_some, J_le, c2, s_holdsT hb, r_O hb, bc_some, thr, J_eq]
    · have c3 : ¬ 8 ≤ S 1 4 := c2
      simp (disch := first | omega | exact it01) only [r_a1 hb, bo_some, J_le, c2, if_false, s_holdsT hb, r_O hb, bc_some, thr, J_eq, r_A0 hb, T13_1]
      simp only [show ¬ (1 : Int) = 0 by omega, if_false, if_true]
      have e := fun K => s_zero_L (Θ := Θ) (N := N) (m := m) (S := T13 S 0) (h := h) hb (k := S 1 4) hm.1 (by omega) (a1 := J l) (a2 := J d) (a3 := J t) (K := K) 9 0 N (by omega) (by omega) (by omega)
      simp only [zer_0] at e
      rw [e]
      have z5 : zer (T13 S 0) (8 + 9 * S 1 4) 9 1 5 = S 1 5 := by rw [zer_at, if_neg (by omega), T13_1]
      have z4 : zer (T13 S 0) (8 + 9 * S 1 4) 9 1 4 = S 1 4 := by rw [zer_at, if_neg (by omega), T13_1]
      simp (disch := omega) only [s_place, bc_some, bo_some, r_A0 hb, r_a1 hb, r_w1 hb, Int.max_eq_right, J_add, J_sub, up2_nj, up2_eq, z5, z4]
      rw [show S 1 5 + 1 - 1 = S 1 5 by omega]
  · rw [if_neg c1]
    have e : ∀ (F : mH → Int32 → Option (Int32 × mH)) (hh : mH), (jn (fun (h51 : mH) => F h51 (J 0)) (fun j50 => if 5 ≤ l ∧ l ≤ 30 then (if 5 ≤ d ∧ d ≤ 80 then (if 0 ≤ t ∧ t ≤ 99 then F hh (J 1) else j50 hh) else j50 hh) else j50 hh)) = F hh (J 0) := by
      intro F hh
      rw [jn_eq]
      by_cases a1 : 5 ≤ l ∧ l ≤ 30
      · rw [if_pos a1]
        by_cases a2 : 5 ≤ d ∧ d ≤ 80
        · rw [if_pos a2, if_neg (by omega)]
        · rw [if_neg a2]
      · rw [if_neg a1]
    simp only [e]
    rw [jn_eq]
    simp only [r_A0 hb, bo_some]
    rw [r_a1 hb (by omega) (by omega), bo_some]
    simp (disch := first | omega | exact it01) only [jn_it1, J_ite, s_holdsT hb, r_O hb, bc_some, J_0]
    by_cases c2 : 8 ≤ S 1 4 <;> simp (disch := omega) [c2, J_le, thr, J_eq]
/-- the rows behind move on -/
def shf (V : Int → Int) (b k : Int) : Int → Int := fun j => if b ≤ j ∧ j < k then V (j + 9) else V j
def ur (S : Nat → Int → Int) (V : Int → Int) : Nat → Int → Int := fun a => if a = 1 then V else S a
theorem ur_1 {V : Int → Int} : ur S V 1 = V := rfl
theorem ur_self : ur S (S 1) = S := by
  funext a
  unfold ur
  split
  · rename_i e; rw [e]
  · rfl
theorem up2_ur {V : Int → Int} {k v : Int} : up2 (ur S V) 1 k v = ur S (up1 V k v) := by
  funext a
  unfold up2 ur
  by_cases c : a = 1
  · rw [if_pos c, if_pos c, if_pos rfl]
  · rw [if_neg c, if_neg c, if_neg c]
theorem shf_S {V : Int → Int} {b k : Int} (hk : b ≤ k) : up1 (shf V b k) k (V (k + 9)) = shf V b (k + 1) := by
  funext j
  unfold up1 shf
  by_cases c : j = k
  · rw [if_pos c, if_pos (by omega), c]
  · rw [if_neg c]
    by_cases d : b ≤ j ∧ j < k
    · rw [if_pos d, if_pos (by omega)]
    · rw [if_neg d, if_neg (by omega)]
theorem s_shift_L (hb : bOK Θ 9 m h) {V : Int → Int} {b : Int} {a3 : Int32} (h1 : 0 ≤ b) {K : mH → Option (Int32 × mH)} : ∀ (r : Nat) (j : Int) (n : Nat), b ≤ j → j + r = 71 → r < n → P_R_removes_64 Θ N K m a3 n (HR Θ m (ur S (shf V b j)) h) (J j) = K (HR Θ m (ur S (shf V b 71)) h) := by
  intro r
  induction r with
  | zero =>
    intro j n hj hr hn
    obtain ⟨n, rfl⟩ : ∃ n', n = n' + 1 := ⟨n - 1, by omega⟩
    obtain rfl : j = 71 := by omega
    rw [E_R_removes_64, B_R_removes_64, if_pos (by rw [J_le] <;> omega)]
  | succ r ih =>
    intro j n hj hr hn
    obtain ⟨n, rfl⟩ : ∃ n', n = n' + 1 := ⟨n - 1, by omega⟩
    have e : ur S (shf V b j) 1 (j + 9) = V (j + 9) := by rw [ur_1]; unfold shf; rw [if_neg (by omega)]
    rw [E_R_removes_64, B_R_removes_64, if_neg (by rw [J_le] <;> omega), r_A0 hb, bo_some, bo_some, J_add, r_a1 hb (by omega) (by omega), bo_some, r_w1 hb (by omega) (by omega), bo_some, J_add, e, up2_ur, shf_S hj]
    exact ih (j + 1) n (by omega) (by omega) (by omega)
/-- removeShip -/
def rmvR (S : Nat → Int → Int) (id : Int) : Int × (Nat → Int → Int) :=
  if fnd (S 1) id (mny (S 1)) = -1 then (0, T13 S 1)
  else if ¬ (fd (S 1) (fnd (S 1) id (mny (S 1))) 4 = -1 ∧ fd (S 1) (fnd (S 1) id (mny (S 1))) 8 = 0) then (0, T13 S 2)
  else (fd (S 1) (fnd (S 1) id (mny (S 1))) 3, up2 (ur (T13 S 0) (shf (S 1) (8 + 9 * fnd (S 1) id (mny (S 1))) 71)) 1 4 (S 1 4 - 1))
theorem fnd_rng (hV : OKV (S 1)) {id : Int} : -1 ≤ fnd (S 1) id (mny (S 1)) ∧ fnd (S 1) id (mny (S 1)) ≤ 7 ∧ fnd (S 1) id (mny (S 1)) < S 1 4 ∨ fnd (S 1) id (mny (S 1)) = -1 := by
  have hm := hV.2
  have := fnd_le (V := S 1) (id := id) (mny (S 1))
  unfold mny at *
  omega
theorem s_removes (hN : 2000 ≤ N) (hb : bOK Θ 9 m h) (hV : OKV (S 1)) {id : Int} (i1 : -2147483648 ≤ id) (i2 : id < 2147483648) : P_R_removes Θ N (HR Θ m S h) m (J id) = some (J (rmvR S id).1, HR Θ m (rmvR S id).2 h) := by
  unfold P_R_removes rmvR
  have hw := fnd_rng (S := S) hV (id := id)
  rw [r_O hb, s_find hN hb hV i1 i2, bc_some]
  generalize fnd (S 1) id (mny (S 1)) = w at hw ⊢
  have hm := hV.2
  have hT : ∀ v, OKV (T13 S v 1) := fun v => by rw [T13_1]; exact hV
  by_cases c1 : w = -1
  · subst c1
    simp (disch := first | omega | exact it01) [jn_it1, jn_eq, r_O hb, s_doc0 hb, bc_some, s_of0 hb, s_holdsT hb, J_0, thr, J_eq]
  · have hw0 : 0 ≤ w := by omega
    have hw7 : w ≤ 7 := by omega
    have b4 := hV.fd w 4
    have b8 := hV.fd w 8
    by_cases c2 : fd (S 1) w 4 = -1
    · by_cases c3 : fd (S 1) w 8 = 0
      · simp (disch := first | omega | exact it01) only [c1, c2, c3, jn_it1, jn_eq, r_O hb, s_docK hb hV, bc_some, s_ofK hb, s_holdsT hb, J_0, J_eq, thr, ne_eq, not_true_eq_false, if_false, if_true, and_self]
        simp only [show ¬ (1 : Int) = 0 by omega, if_false, if_true]
        simp (disch := first | omega | exact it01) only [r_O hb, s_ofK hb, s_place, bc_some, T13_1, Int.max_eq_right, Int.add_zero]
        have e := s_shift_L (Θ := Θ) (N := N) (m := m) (S := T13 S 0) (h := h) hb (V := S 1) (b := 8 + 9 * w) (a3 := J (fd (S 1) w 3)) (by omega) (K := fun h24 => bo (rA Θ h24 9 m 0) (fun v25 => bo (aR Θ h24 0 v25 (J 4)) (fun v26 => bo (aW Θ h24 0 v25 (J 4) (v26 - J 1)) (fun h27 => some (J (fd (S 1) w 3), h27)))))
        have e2 := e (71 - (8 + 9 * w)).toNat (8 + 9 * w) N (by omega) (by omega) (by omega)
        rw [show shf (S 1) (8 + 9 * w) (8 + 9 * w) = T13 S 0 1 by rw [T13_1]; funext j; unfold shf; rw [if_neg (by omega)], ur_self] at e2
        rw [e2]
        have e4 : ur (T13 S 0) (shf (S 1) (8 + 9 * w) 71) 1 4 = S 1 4 := by rw [ur_1]; unfold shf; rw [if_neg (by omega)]
        simp (disch := omega) only [r_A0 hb, bo_some, r_a1 hb, r_w1 hb, J_sub, e4]
      · simp (disch := first | omega | exact it01) [c1, c2, c3, jn_it1, jn_eq, r_O hb, s_docK hb hV, bc_some, s_ofK hb, s_holdsT hb, J_0, J_eq, thr]
    · simp (disch := first | omega | exact it01) [c1, c2, jn_it1, jn_eq, r_O hb, s_docK hb hV, bc_some, s_ofK hb, s_holdsT hb, J_0, J_eq, thr]
end R3
