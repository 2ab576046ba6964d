/-! ships, fleets, blocks: what is asked of them -/
section C0
variable {G H M : Int} {V : Int → Int}
theorem fnd_none {id : Int} : ∀ n : Nat, fnd V id n = -1 ↔ ∀ k : Nat, k < n → fd V k 0 ≠ id
  | 0 => by simp [fnd]
  | n + 1 => by
    rw [fnd]
    constructor
    · intro h k hk
      split at h
      · omega
      · rename_i hc
        by_cases c : k = n
        · subst c; exact hc
        · exact (fnd_none n).mp h k (by omega)
    · intro h
      rw [if_neg (h n (by omega))]
      exact (fnd_none n).mpr (fun k hk => h k (by omega))
theorem fnd_id {id : Int} : ∀ n : Nat, fnd V id n ≠ -1 → fd V (fnd V id n) 0 = id
  | 0, h => by simp [fnd] at h
  | n + 1, h => by
    rw [fnd] at h ⊢
    by_cases c : fd V n 0 = id
    · rw [if_pos c]; exact c
    · rw [if_neg c] at h ⊢; exact fnd_id n h
theorem id_uniq (I : Inv G H M V) {k l : Int} (h1 : 0 ≤ k) (h2 : k < V 4) (h3 : 0 ≤ l) (h4 : l < V 4) (he : fd V k 0 = fd V l 0) : k = l := by
  by_cases c : k < l
  · have := (I.pr k l h1 c h4).1
    omega
  · by_cases d : l < k
    · have := (I.pr l k h3 d h2).1
      omega
    · omega
theorem fnd_of (I : Inv G H M V) {k : Int} (h1 : 0 ≤ k) (h2 : k < V 4) : fnd V (fd V k 0) (mny V) = k := by
  have hn : fnd V (fd V k 0) (mny V) ≠ -1 := fun e => (fnd_none (V := V) (mny V)).mp e k.toNat (by unfold mny; omega) (by rw [Int.toNat_of_nonneg h1])
  have hc := fnd_id (V := V) (mny V) hn
  have hr := fnd_le (V := V) (id := fd V k 0) (mny V)
  have := I.h4
  have hm : (mny V : Int) = V 4 := by unfold mny; omega
  exact id_uniq I (by omega) (by omega) h1 h2 hc
/-- the first ship from j on, among r, that reaches into l metres from a -/
def ovf (V : Int → Int) (a l : Int) : Nat → Int → Int
  | 0, _ => -1
  | r + 1, j => if fd V j 4 ≠ -1 ∧ fd V j 4 < a + l ∧ a < fd V j 4 + fd V j 1 then j else ovf V a l r (j + 1)
theorem ovf_rng {a l : Int} : ∀ (r : Nat) (j : Int), 0 ≤ j → ovf V a l r j = -1 ∨ (j ≤ ovf V a l r j ∧ ovf V a l r j < j + r)
  | 0, _, _ => Or.inl rfl
  | r + 1, j, h => by
    have := ovf_rng (a := a) (l := l) r (j + 1) (by omega)
    rw [ovf]
    split <;> omega
theorem ovf_none {a l : Int} : ∀ (r : Nat) (j : Int), 0 ≤ j → (ovf V a l r j = -1 ↔ ∀ k : Int, j ≤ k → k < j + r → ¬ (fd V k 4 ≠ -1 ∧ fd V k 4 < a + l ∧ a < fd V k 4 + fd V k 1))
  | 0, j, _ => by
    constructor
    · intro _ k h1 h2; omega
    · intro _; rfl
  | r + 1, j, h => by
    have ih := ovf_none (a := a) (l := l) r (j + 1) (by omega)
    rw [ovf]
    constructor
    · intro h9 k h1 h2
      split at h9
      · omega
      · rename_i hc
        by_cases c : k = j
        · rw [c]; exact hc
        · exact ih.mp h9 k (by omega) (by omega)
    · intro h9
      rw [if_neg (h9 j (by omega) (by omega))]
      exact ih.mpr (fun k h1 h2 => h9 k (by omega) (by omega))
theorem ovf_hit {a l : Int} : ∀ (r : Nat) (j : Int), ovf V a l r j ≠ -1 → fd V (ovf V a l r j) 4 ≠ -1 ∧ fd V (ovf V a l r j) 4 < a + l ∧ a < fd V (ovf V a l r j) 4 + fd V (ovf V a l r j) 1
  | 0, j, h => absurd rfl h
  | r + 1, j, h => by
    rw [ovf] at h ⊢
    split
    · rename_i hc; exact hc
    · rename_i hc
      rw [if_neg hc] at h
      exact ovf_hit r (j + 1) h
/-- one metre: who lies there -/
theorem ovf_at (I : Inv G H M V) {p : Int} : ovf V p 1 (mny V) 0 = at' V p := by
  have h4 := I.h4
  have hm : (mny V : Int) = V 4 := by unfold mny; omega
  by_cases c : ovf V p 1 (mny V) 0 = -1
  · rw [c]
    symm
    refine at_none.mpr (fun k h1 h2 h3 => (ovf_none (V := V) (mny V) 0 (by omega)).mp c k h1 (by omega) ?_)
    unfold cov at h3
    omega
  · have h := ovf_hit (V := V) (mny V) 0 c
    have hr := ovf_rng (V := V) (a := p) (l := 1) (mny V) 0 (by omega)
    symm
    refine at_of I (by omega) (by omega) ?_
    unfold cov
    omega
theorem ovf_fre (I : Inv G H M V) {a l : Int} (hl : 1 ≤ l) : ovf V a l (mny V) 0 = -1 ↔ fre V a l.toNat = 1 := by
  have h4 := I.h4
  have hm : (mny V : Int) = V 4 := by unfold mny; omega
  rw [fre_iff2 I (by omega), ovf_none (V := V) (mny V) 0 (by omega)]
  constructor
  · intro h k h1 h2 h3
    have := h k h1 (by omega)
    omega
  · intro h k h1 h2 h3
    have := h k h1 (by omega) h3.1
    omega
def tkn (V : Int → Int) : Nat → Int
  | 0 => 0
  | k + 1 => tkn V k + (if fd V k 4 ≠ -1 then fd V k 1 else 0)
end C0
section C1
variable {Θ : mW} {N b : Nat} {D : Nat → Int → Int} {V : Int → Int} {h : mH} {G H M : Int}
theorem c_isDocked (hb : bOK Θ 13 b h) (hd : DV D V) (I : Inv G H M V) {k : Int} (h1 : 0 ≤ k) (h2 : k < V 4) : P_S_isDocked Θ N (HD Θ b D h) (b + 3 + ro D k) = some (J (if fd V k 4 ≠ -1 then 1 else 0), HD Θ b D h) := by
  unfold P_S_isDocked
  have h4 := I.h4
  have b4 := I.ok.fd k 4
  by_cases c : fd V k 4 = -1
  · repeat (first | (simp (disch := first | omega | exact it01) only [jn_it1, jn_it2, bo_some, bc_some, bx_inl, bx_inr, bn_some, bn_none, J_add, J_sub, J_mul, J_neg, J_0, J_lt, J_le, J_eq, J_ite, J01_0, J01_1, ite_not, ite_self, d_A0 hb, d_A1 hb, d_W2 hb, d_W3 hb, d_W4 hb, d_W5 hb, d_W6 hb, d_W7 hb, d_O1 hb, l_A0 hb, l_W1 hb, l_W2 hb, l_O hb, l_Q hb, l_P hb, b_A0 hb, b_I1 hb, b_W1 hb, b_O hb, b_a hb, b_w hb, v_I0 hb hd, v_W0 hb hd, v_I1 hb hd, v_W1 hb hd, v_I2 hb hd, v_W2 hb hd, v_I3 hb hd, v_W3 hb hd, v_I4 hb hd, v_W4 hb hd, v_I5 hb hd, v_W5 hb hd, v_I6 hb hd, v_W6 hb hd, v_I7 hb hd, v_W7 hb hd, v_I8 hb hd, v_W8 hb hd, v_O hb hd, v_S0 hb hd, v_S1 hb hd, v_S2 hb hd, v_S3 hb hd, v_S4 hb hd, v_S5 hb hd, v_S6 hb hd, v_S7 hb hd, Int.max_eq_right, ↓reduceIte, Int.reduceEq, Int.reduceNeg, Int.reduceLT, Int.reduceLE, Int.reduceAdd, Int.reduceSub, ne_eq, not_true_eq_false, not_false_eq_true, and_self, and_true, true_and, and_false, false_and, or_true, true_or, or_false, false_or, or_self, Int.reduceMul, c]) | rw [jn_eq])
  · repeat (first | (simp (disch := first | omega | exact it01) only [jn_it1, jn_it2, bo_some, bc_some, bx_inl, bx_inr, bn_some, bn_none, J_add, J_sub, J_mul, J_neg, J_0, J_lt, J_le, J_eq, J_ite, J01_0, J01_1, ite_not, ite_self, d_A0 hb, d_A1 hb, d_W2 hb, d_W3 hb, d_W4 hb, d_W5 hb, d_W6 hb, d_W7 hb, d_O1 hb, l_A0 hb, l_W1 hb, l_W2 hb, l_O hb, l_Q hb, l_P hb, b_A0 hb, b_I1 hb, b_W1 hb, b_O hb, b_a hb, b_w hb, v_I0 hb hd, v_W0 hb hd, v_I1 hb hd, v_W1 hb hd, v_I2 hb hd, v_W2 hb hd, v_I3 hb hd, v_W3 hb hd, v_I4 hb hd, v_W4 hb hd, v_I5 hb hd, v_W5 hb hd, v_I6 hb hd, v_W6 hb hd, v_I7 hb hd, v_W7 hb hd, v_I8 hb hd, v_W8 hb hd, v_O hb hd, v_S0 hb hd, v_S1 hb hd, v_S2 hb hd, v_S3 hb hd, v_S4 hb hd, v_S5 hb hd, v_S6 hb hd, v_S7 hb hd, Int.max_eq_right, ↓reduceIte, Int.reduceEq, Int.reduceNeg, Int.reduceLT, Int.reduceLE, Int.reduceAdd, Int.reduceSub, ne_eq, not_true_eq_false, not_false_eq_true, and_self, and_true, true_and, and_false, false_and, or_true, true_or, or_false, false_or, or_self, Int.reduceMul, c]) | rw [jn_eq])
theorem c_end (hb : bOK Θ 13 b h) (hd : DV D V) (I : Inv G H M V) {k : Int} (h1 : 0 ≤ k) (h2 : k < V 4) : P_S_end Θ N (HD Θ b D h) (b + 3 + ro D k) = some (J (fd V k 4 + fd V k 1), HD Θ b D h) := by
  unfold P_S_end
  have h4 := I.h4
  repeat (first | (simp (disch := first | omega | exact it01) only [jn_it1, jn_it2, bo_some, bc_some, bx_inl, bx_inr, bn_some, bn_none, J_add, J_sub, J_mul, J_neg, J_0, J_lt, J_le, J_eq, J_ite, J01_0, J01_1, ite_not, ite_self, d_A0 hb, d_A1 hb, d_W2 hb, d_W3 hb, d_W4 hb, d_W5 hb, d_W6 hb, d_W7 hb, d_O1 hb, l_A0 hb, l_W1 hb, l_W2 hb, l_O hb, l_Q hb, l_P hb, b_A0 hb, b_I1 hb, b_W1 hb, b_O hb, b_a hb, b_w hb, v_I0 hb hd, v_W0 hb hd, v_I1 hb hd, v_W1 hb hd, v_I2 hb hd, v_W2 hb hd, v_I3 hb hd, v_W3 hb hd, v_I4 hb hd, v_W4 hb hd, v_I5 hb hd, v_W5 hb hd, v_I6 hb hd, v_W6 hb hd, v_I7 hb hd, v_W7 hb hd, v_I8 hb hd, v_W8 hb hd, v_O hb hd, v_S0 hb hd, v_S1 hb hd, v_S2 hb hd, v_S3 hb hd, v_S4 hb hd, v_S5 hb hd, v_S6 hb hd, v_S7 hb hd, Int.max_eq_right, ↓reduceIte, Int.reduceEq, Int.reduceNeg, Int.reduceLT, Int.reduceLE, Int.reduceAdd, Int.reduceSub, ne_eq, not_true_eq_false, not_false_eq_true, and_self, and_true, true_and, and_false, false_and, or_true, true_or, or_false, false_or, or_self, Int.reduceMul]) | rw [jn_eq])
theorem c_overlaps (hb : bOK Θ 13 b h) (hd : DV D V) (I : Inv G H M V) {k a l : Int} (h1 : 0 ≤ k) (h2 : k < V 4) (a1 : -100000 ≤ a) (a2 : a ≤ 100000) (l1 : 0 ≤ l) (l2 : l ≤ 1000) : P_S_overlaps Θ N (HD Θ b D h) (b + 3 + ro D k) (J a) (J l) = some (J (if fd V k 4 ≠ -1 ∧ fd V k 4 < a + l ∧ a < fd V k 4 + fd V k 1 then 1 else 0), HD Θ b D h) := by
  unfold P_S_overlaps
  have h4 := I.h4
  have b4 := I.ok.fd k 4
  have b1 := I.ok.fd k 1
  by_cases c : fd V k 4 = -1
  · repeat (first | (simp (disch := first | omega | exact it01) only [jn_it1, jn_it2, bo_some, bc_some, bx_inl, bx_inr, bn_some, bn_none, J_add, J_sub, J_mul, J_neg, J_0, J_lt, J_le, J_eq, J_ite, J01_0, J01_1, ite_not, ite_self, d_A0 hb, d_A1 hb, d_W2 hb, d_W3 hb, d_W4 hb, d_W5 hb, d_W6 hb, d_W7 hb, d_O1 hb, l_A0 hb, l_W1 hb, l_W2 hb, l_O hb, l_Q hb, l_P hb, b_A0 hb, b_I1 hb, b_W1 hb, b_O hb, b_a hb, b_w hb, v_I0 hb hd, v_W0 hb hd, v_I1 hb hd, v_W1 hb hd, v_I2 hb hd, v_W2 hb hd, v_I3 hb hd, v_W3 hb hd, v_I4 hb hd, v_W4 hb hd, v_I5 hb hd, v_W5 hb hd, v_I6 hb hd, v_W6 hb hd, v_I7 hb hd, v_W7 hb hd, v_I8 hb hd, v_W8 hb hd, v_O hb hd, v_S0 hb hd, v_S1 hb hd, v_S2 hb hd, v_S3 hb hd, v_S4 hb hd, v_S5 hb hd, v_S6 hb hd, v_S7 hb hd, Int.max_eq_right, ↓reduceIte, Int.reduceEq, Int.reduceNeg, Int.reduceLT, Int.reduceLE, Int.reduceAdd, Int.reduceSub, ne_eq, not_true_eq_false, not_false_eq_true, and_self, and_true, true_and, and_false, false_and, or_true, true_or, or_false, false_or, or_self, Int.reduceMul, c]) | rw [jn_eq])
  · by_cases c2 : fd V k 4 < a + l
    · have d2 : ¬ a + l ≤ fd V k 4 := by omega
      by_cases c3 : a < fd V k 4 + fd V k 1
      · have d3 : ¬ fd V k 4 + fd V k 1 ≤ a := by omega
        repeat (first | (simp (disch := first | omega | exact it01) only [jn_it1, jn_it2, bo_some, bc_some, bx_inl, bx_inr, bn_some, bn_none, J_add, J_sub, J_mul, J_neg, J_0, J_lt, J_le, J_eq, J_ite, J01_0, J01_1, ite_not, ite_self, d_A0 hb, d_A1 hb, d_W2 hb, d_W3 hb, d_W4 hb, d_W5 hb, d_W6 hb, d_W7 hb, d_O1 hb, l_A0 hb, l_W1 hb, l_W2 hb, l_O hb, l_Q hb, l_P hb, b_A0 hb, b_I1 hb, b_W1 hb, b_O hb, b_a hb, b_w hb, v_I0 hb hd, v_W0 hb hd, v_I1 hb hd, v_W1 hb hd, v_I2 hb hd, v_W2 hb hd, v_I3 hb hd, v_W3 hb hd, v_I4 hb hd, v_W4 hb hd, v_I5 hb hd, v_W5 hb hd, v_I6 hb hd, v_W6 hb hd, v_I7 hb hd, v_W7 hb hd, v_I8 hb hd, v_W8 hb hd, v_O hb hd, v_S0 hb hd, v_S1 hb hd, v_S2 hb hd, v_S3 hb hd, v_S4 hb hd, v_S5 hb hd, v_S6 hb hd, v_S7 hb hd, Int.max_eq_right, ↓reduceIte, Int.reduceEq, Int.reduceNeg, Int.reduceLT, Int.reduceLE, Int.reduceAdd, Int.reduceSub, ne_eq, not_true_eq_false, not_false_eq_true, and_self, and_true, true_and, and_false, false_and, or_true, true_or, or_false, false_or, or_self, Int.reduceMul, c, c2, d2, c3, d3]) | rw [jn_eq])
      · have d3 : fd V k 4 + fd V k 1 ≤ a := by omega
        repeat (first | (simp (disch := first | omega | exact it01) only [jn_it1, jn_it2, bo_some, bc_some, bx_inl, bx_inr, bn_some, bn_none, J_add, J_sub, J_mul, J_neg, J_0, J_lt, J_le, J_eq, J_ite, J01_0, J01_1, ite_not, ite_self, d_A0 hb, d_A1 hb, d_W2 hb, d_W3 hb, d_W4 hb, d_W5 hb, d_W6 hb, d_W7 hb, d_O1 hb, l_A0 hb, l_W1 hb, l_W2 hb, l_O hb, l_Q hb, l_P hb, b_A0 hb, b_I1 hb, b_W1 hb, b_O hb, b_a hb, b_w hb, v_I0 hb hd, v_W0 hb hd, v_I1 hb hd, v_W1 hb hd, v_I2 hb hd, v_W2 hb hd, v_I3 hb hd, v_W3 hb hd, v_I4 hb hd, v_W4 hb hd, v_I5 hb hd, v_W5 hb hd, v_I6 hb hd, v_W6 hb hd, v_I7 hb hd, v_W7 hb hd, v_I8 hb hd, v_W8 hb hd, v_O hb hd, v_S0 hb hd, v_S1 hb hd, v_S2 hb hd, v_S3 hb hd, v_S4 hb hd, v_S5 hb hd, v_S6 hb hd, v_S7 hb hd, Int.max_eq_right, ↓reduceIte, Int.reduceEq, Int.reduceNeg, Int.reduceLT, Int.reduceLE, Int.reduceAdd, Int.reduceSub, ne_eq, not_true_eq_false, not_false_eq_true, and_self, and_true, true_and, and_false, false_and, or_true, true_or, or_false, false_or, or_self, Int.reduceMul, c, c2, d2, c3, d3]) | rw [jn_eq])
    · have d2 : a + l ≤ fd V k 4 := by omega
      repeat (first | (simp (disch := first | omega | exact it01) only [jn_it1, jn_it2, bo_some, bc_some, bx_inl, bx_inr, bn_some, bn_none, J_add, J_sub, J_mul, J_neg, J_0, J_lt, J_le, J_eq, J_ite, J01_0, J01_1, ite_not, ite_self, d_A0 hb, d_A1 hb, d_W2 hb, d_W3 hb, d_W4 hb, d_W5 hb, d_W6 hb, d_W7 hb, d_O1 hb, l_A0 hb, l_W1 hb, l_W2 hb, l_O hb, l_Q hb, l_P hb, b_A0 hb, b_I1 hb, b_W1 hb, b_O hb, b_a hb, b_w hb, v_I0 hb hd, v_W0 hb hd, v_I1 hb hd, v_W1 hb hd, v_I2 hb hd, v_W2 hb hd, v_I3 hb hd, v_W3 hb hd, v_I4 hb hd, v_W4 hb hd, v_I5 hb hd, v_W5 hb hd, v_I6 hb hd, v_W6 hb hd, v_I7 hb hd, v_W7 hb hd, v_I8 hb hd, v_W8 hb hd, v_O hb hd, v_S0 hb hd, v_S1 hb hd, v_S2 hb hd, v_S3 hb hd, v_S4 hb hd, v_S5 hb hd, v_S6 hb hd, v_S7 hb hd, Int.max_eq_right, ↓reduceIte, Int.reduceEq, Int.reduceNeg, Int.reduceLT, Int.reduceLE, Int.reduceAdd, Int.reduceSub, ne_eq, not_true_eq_false, not_false_eq_true, and_self, and_true, true_and, and_false, false_and, or_true, true_or, or_false, false_or, or_self, Int.reduceMul, c, c2, d2]) | rw [jn_eq])
theorem c_floatsAt (hb : bOK Θ 13 b h) (hd : DV D V) (I : Inv G H M V) {k x : Int} (h1 : 0 ≤ k) (h2 : k < V 4) (x1 : -100000 ≤ x) (x2 : x ≤ 100000) : P_S_floatsAt Θ N (HD Θ b D h) (b + 3 + ro D k) (J x) = some (J (if fd V k 4 = -1 ∨ fd V k 2 ≤ x then 1 else 0), HD Θ b D h) := by
  unfold P_S_floatsAt
  have h4 := I.h4
  have b2 := I.ok.fd k 2
  by_cases c : fd V k 4 = -1
  · repeat (first | (simp (disch := first | omega | exact it01) only [jn_it1, jn_it2, bo_some, bc_some, bx_inl, bx_inr, bn_some, bn_none, J_add, J_sub, J_mul, J_neg, J_0, J_lt, J_le, J_eq, J_ite, J01_0, J01_1, ite_not, ite_self, d_A0 hb, d_A1 hb, d_W2 hb, d_W3 hb, d_W4 hb, d_W5 hb, d_W6 hb, d_W7 hb, d_O1 hb, l_A0 hb, l_W1 hb, l_W2 hb, l_O hb, l_Q hb, l_P hb, b_A0 hb, b_I1 hb, b_W1 hb, b_O hb, b_a hb, b_w hb, v_I0 hb hd, v_W0 hb hd, v_I1 hb hd, v_W1 hb hd, v_I2 hb hd, v_W2 hb hd, v_I3 hb hd, v_W3 hb hd, v_I4 hb hd, v_W4 hb hd, v_I5 hb hd, v_W5 hb hd, v_I6 hb hd, v_W6 hb hd, v_I7 hb hd, v_W7 hb hd, v_I8 hb hd, v_W8 hb hd, v_O hb hd, v_S0 hb hd, v_S1 hb hd, v_S2 hb hd, v_S3 hb hd, v_S4 hb hd, v_S5 hb hd, v_S6 hb hd, v_S7 hb hd, Int.max_eq_right, ↓reduceIte, Int.reduceEq, Int.reduceNeg, Int.reduceLT, Int.reduceLE, Int.reduceAdd, Int.reduceSub, ne_eq, not_true_eq_false, not_false_eq_true, and_self, and_true, true_and, and_false, false_and, or_true, true_or, or_false, false_or, or_self, Int.reduceMul, c, c_isDocked hb hd I]) | rw [jn_eq])
  · by_cases c2 : fd V k 2 ≤ x
    · have d2 : ¬ x < fd V k 2 := by omega
      repeat (first | (simp (disch := first | omega | exact it01) only [jn_it1, jn_it2, bo_some, bc_some, bx_inl, bx_inr, bn_some, bn_none, J_add, J_sub, J_mul, J_neg, J_0, J_lt, J_le, J_eq, J_ite, J01_0, J01_1, ite_not, ite_self, d_A0 hb, d_A1 hb, d_W2 hb, d_W3 hb, d_W4 hb, d_W5 hb, d_W6 hb, d_W7 hb, d_O1 hb, l_A0 hb, l_W1 hb, l_W2 hb, l_O hb, l_Q hb, l_P hb, b_A0 hb, b_I1 hb, b_W1 hb, b_O hb, b_a hb, b_w hb, v_I0 hb hd, v_W0 hb hd, v_I1 hb hd, v_W1 hb hd, v_I2 hb hd, v_W2 hb hd, v_I3 hb hd, v_W3 hb hd, v_I4 hb hd, v_W4 hb hd, v_I5 hb hd, v_W5 hb hd, v_I6 hb hd, v_W6 hb hd, v_I7 hb hd, v_W7 hb hd, v_I8 hb hd, v_W8 hb hd, v_O hb hd, v_S0 hb hd, v_S1 hb hd, v_S2 hb hd, v_S3 hb hd, v_S4 hb hd, v_S5 hb hd, v_S6 hb hd, v_S7 hb hd, Int.max_eq_right, ↓reduceIte, Int.reduceEq, Int.reduceNeg, Int.reduceLT, Int.reduceLE, Int.reduceAdd, Int.reduceSub, ne_eq, not_true_eq_false, not_false_eq_true, and_self, and_true, true_and, and_false, false_and, or_true, true_or, or_false, false_or, or_self, Int.reduceMul, c, c2, d2, c_isDocked hb hd I]) | rw [jn_eq])
    · have d2 : x < fd V k 2 := by omega
      repeat (first | (simp (disch := first | omega | exact it01) only [jn_it1, jn_it2, bo_some, bc_some, bx_inl, bx_inr, bn_some, bn_none, J_add, J_sub, J_mul, J_neg, J_0, J_lt, J_le, J_eq, J_ite, J01_0, J01_1, ite_not, ite_self, d_A0 hb, d_A1 hb, d_W2 hb, d_W3 hb, d_W4 hb, d_W5 hb, d_W6 hb, d_W7 hb, d_O1 hb, l_A0 hb, l_W1 hb, l_W2 hb, l_O hb, l_Q hb, l_P hb, b_A0 hb, b_I1 hb, b_W1 hb, b_O hb, b_a hb, b_w hb, v_I0 hb hd, v_W0 hb hd, v_I1 hb hd, v_W1 hb hd, v_I2 hb hd, v_W2 hb hd, v_I3 hb hd, v_W3 hb hd, v_I4 hb hd, v_W4 hb hd, v_I5 hb hd, v_W5 hb hd, v_I6 hb hd, v_W6 hb hd, v_I7 hb hd, v_W7 hb hd, v_I8 hb hd, v_W8 hb hd, v_O hb hd, v_S0 hb hd, v_S1 hb hd, v_S2 hb hd, v_S3 hb hd, v_S4 hb hd, v_S5 hb hd, v_S6 hb hd, v_S7 hb hd, Int.max_eq_right, ↓reduceIte, Int.reduceEq, Int.reduceNeg, Int.reduceLT, Int.reduceLE, Int.reduceAdd, Int.reduceSub, ne_eq, not_true_eq_false, not_false_eq_true, and_self, and_true, true_and, and_false, false_and, or_true, true_or, or_false, false_or, or_self, Int.reduceMul, c, c2, d2, c_isDocked hb hd I]) | rw [jn_eq])
theorem c_ranksBefore (hb : bOK Θ 13 b h) (hd : DV D V) (I : Inv G H M V) {k l : Int} (h1 : 0 ≤ k) (h2 : k < V 4) (h3 : 0 ≤ l) (h5 : l < V 4) : P_S_ranksBefore Θ N (HD Θ b D h) (b + 3 + ro D k) (b + 3 + ro D l) = some (J (if 0 < fd V k 8 - fd V l 8 ∨ (fd V k 8 - fd V l 8 = 0 ∧ (0 < fd V k 3 - fd V l 3 ∨ (fd V k 3 - fd V l 3 = 0 ∧ k < l))) then 1 else 0), HD Θ b D h) := by
  unfold P_S_ranksBefore
  have h4 := I.h4
  have a8 := I.ok.fd k 8
  have b8 := I.ok.fd l 8
  have a3 := I.ok.fd k 3
  have b3 := I.ok.fd l 3
  have a0 := I.ok.fd k 0
  have b0 := I.ok.fd l 0
  simp (disch := omega) only [bo_some, v_I8 hb hd, v_I3 hb hd, v_I0 hb hd, J_eq, J_le]
  by_cases c1 : fd V k 8 = fd V l 8
  · rw [if_pos c1]
    by_cases c2 : fd V k 3 = fd V l 3
    · rw [if_pos c2]
      by_cases c3 : k < l
      · have := (I.pr k l h1 c3 h5).1
        rw [if_neg (by omega), if_pos (by omega)]
      · by_cases c4 : k = l
        · rw [if_pos (by rw [c4]; omega), if_neg (by omega)]
        · have := (I.pr l k h3 (by omega) h2).1
          rw [if_pos (by omega), if_neg (by omega)]
    · rw [if_neg c2]
      by_cases c3 : fd V k 3 ≤ fd V l 3
      · rw [if_pos c3, if_neg (by omega)]
      · rw [if_neg c3, if_pos (by omega)]
  · rw [if_neg c1]
    by_cases c3 : fd V k 8 ≤ fd V l 8
    · rw [if_pos c3, if_neg (by omega)]
    · rw [if_neg c3, if_pos (by omega)]
theorem c_known_L (hb : bOK Θ 13 b h) (hd : DV D V) (I : Inv G H M V) {id : Int} (i1 : -2147483648 ≤ id) (i2 : id < 2147483648) {K : mH → Option ((Nat ⊕ Nat) × mH)} : ∀ (r : Nat) (j : Int) (n : Nat), 0 ≤ j → j + r = V 4 → (∀ k : Int, 0 ≤ k → k < j → fd V k 0 ≠ id) → r < n → P_L_known_2 Θ N K (b + 1) (J id) n (HD Θ b D h) (J j) = if fnd V id (mny V) = -1 then K (HD Θ b D h) else some (.inl (b + 3 + ro D (fnd V id (mny V))), HD Θ b D h) := by
  intro r
  have h4 := I.h4
  have hm : (mny V : Int) = V 4 := by unfold mny; omega
  induction r with
  | zero =>
    intro j n h0 hj hk hn
    obtain ⟨n, rfl⟩ : ∃ n', n = n' + 1 := ⟨n - 1, by omega⟩
    rw [E_L_known_2, B_L_known_2, v_S4 hb hd, bo_some, if_pos (by rw [J_le] <;> omega), if_pos ((fnd_none _).mpr (fun k hk2 => hk k (by omega) (by omega)))]
  | succ r ih =>
    intro j n h0 hj hk hn
    obtain ⟨n, rfl⟩ : ∃ n', n = n' + 1 := ⟨n - 1, by omega⟩
    have b0 := I.ok.fd j 0
    rw [E_L_known_2, B_L_known_2, v_S4 hb hd, bo_some, if_neg (by rw [J_le] <;> omega), l_A0 hb, bo_some, l_Q hb h0 (by omega), bo_some, v_I0 hb hd h0 (by omega) (by omega), bo_some]
    by_cases c : fd V j 0 = id
    · have e : fnd V id (mny V) = j := by rw [← c]; exact fnd_of I h0 (by omega)
      rw [if_pos (by rw [c]), bo_some, l_Q hb h0 (by omega), bo_some, e, if_neg (by omega)]
    · rw [if_neg (by rw [J_eq] <;> omega), J_add]
      refine ih (j + 1) n (by omega) (by omega) (fun k a1 a2 => ?_) (by omega)
      by_cases e : k = j
      · rw [e]; exact c
      · exact hk k a1 (by omega)
theorem c_known (hN : 2000 ≤ N) (hb : bOK Θ 13 b h) (hd : DV D V) (I : Inv G H M V) {id : Int} (i1 : -2147483648 ≤ id) (i2 : id < 2147483648) : P_L_known Θ N (HD Θ b D h) (b + 1) (J id) = if fnd V id (mny V) = -1 then some (.inr 10, HD Θ b D (h ++ [oB 10 []])) else some (.inl (b + 3 + ro D (fnd V id (mny V))), HD Θ b D h) := by
  unfold P_L_known
  have h4 := I.h4
  refine (c_known_L hb hd I i1 i2 (V 4).toNat 0 N (by omega) (by omega) (fun k a1 a2 => by omega) (by omega)).trans ?_
  rw [xp, BK_app hb]
theorem c_overlapping_L (hb : bOK Θ 13 b h) (hd : DV D V) (I : Inv G H M V) {a l : Int} (a1 : -100000 ≤ a) (a2 : a ≤ 100000) (l1 : 0 ≤ l) (l2 : l ≤ 1000) {K : mH → Option (Option Nat × mH)} : ∀ (r : Nat) (j : Int) (n : Nat), 0 ≤ j → j + r = V 4 → r < n → P_L_overlapping_2 Θ N K (b + 1) (J a) (J l) n (HD Θ b D h) (J j) = if ovf V a l r j = -1 then K (HD Θ b D h) else some (some (b + 3 + ro D (ovf V a l r j)), HD Θ b D h) := by
  intro r
  have h4 := I.h4
  induction r with
  | zero =>
    intro j n h0 hj hn
    obtain ⟨n, rfl⟩ : ∃ n', n = n' + 1 := ⟨n - 1, by omega⟩
    rw [E_L_overlapping_2, B_L_overlapping_2, v_S4 hb hd, bo_some, if_pos (by rw [J_le] <;> omega), ovf, if_pos rfl]
  | succ r ih =>
    intro j n h0 hj hn
    obtain ⟨n, rfl⟩ : ∃ n', n = n' + 1 := ⟨n - 1, by omega⟩
    rw [E_L_overlapping_2, B_L_overlapping_2, v_S4 hb hd, bo_some, if_neg (by rw [J_le] <;> omega), l_A0 hb, bo_some, l_Q hb h0 (by omega), bo_some, v_O hb hd h0 (by omega), c_overlaps hb hd I h0 (by omega) a1 a2 l1 l2, bc_some, ovf]
    by_cases c : fd V j 4 ≠ -1 ∧ fd V j 4 < a + l ∧ a < fd V j 4 + fd V j 1
    · rw [if_pos c, if_pos c, if_neg (by rw [J_0, J_eq] <;> omega), l_A0 hb, bo_some, l_Q hb h0 (by omega), bo_some, if_neg (by omega)]
    · rw [if_neg c, if_neg c, if_pos (by rfl), J_add]
      exact ih (j + 1) n (by omega) (by omega) (by omega)
theorem c_overlapping (hN : 2000 ≤ N) (hb : bOK Θ 13 b h) (hd : DV D V) (I : Inv G H M V) {a l : Int} (a1 : -100000 ≤ a) (a2 : a ≤ 100000) (l1 : 0 ≤ l) (l2 : l ≤ 1000) : P_L_overlapping Θ N (HD Θ b D h) (b + 1) (J a) (J l) = if ovf V a l (mny V) 0 = -1 then some (none, HD Θ b D h) else some (some (b + 3 + ro D (ovf V a l (mny V) 0)), HD Θ b D h) := by
  unfold P_L_overlapping
  have h4 := I.h4
  exact c_overlapping_L hb hd I a1 a2 l1 l2 (mny V) 0 N (by omega) (by unfold mny; omega) (by unfold mny; omega)
theorem c_dockedCount_L (hb : bOK Θ 13 b h) (hd : DV D V) (I : Inv G H M V) {K : mH → Int32 → Option (Int32 × mH)} : ∀ (r j n : Nat), (j : Int) + r = V 4 → r < n → P_L_dockedCount_4 Θ N K (b + 1) n (HD Θ b D h) (J (dct V j)) (J j) = K (HD Θ b D h) (J (dct V (mny V))) := by
  intro r
  have h4 := I.h4
  induction r with
  | zero =>
    intro j n hj hn
    obtain ⟨n, rfl⟩ : ∃ n', n = n' + 1 := ⟨n - 1, by omega⟩
    rw [E_L_dockedCount_4, B_L_dockedCount_4, v_S4 hb hd, bo_some, if_pos (by rw [J_le] <;> omega), show mny V = j by unfold mny; omega]
  | succ r ih =>
    intro j n hj hn
    obtain ⟨n, rfl⟩ : ∃ n', n = n' + 1 := ⟨n - 1, by omega⟩
    have ih' := ih (j + 1) n (by omega) (by omega)
    rw [dct] at ih'
    rw [E_L_dockedCount_4, B_L_dockedCount_4, v_S4 hb hd, bo_some, if_neg (by rw [J_le] <;> omega), l_A0 hb, bo_some, l_Q hb (by omega) (by omega), bo_some, v_O hb hd (by omega) (by omega), c_isDocked hb hd I (by omega) (by omega), bc_some, jn_eq, ← ih']
    by_cases c : fd V j 4 = -1
    · have c' : ¬ (fd V j 4 ≠ -1) := by simpa using c
      rw [if_neg c', if_pos (by rfl), J_add]
      simp
    · rw [if_pos c, if_neg (by rw [J_0, J_eq] <;> omega)]
      dsimp only
      rw [J_add, J_add]
      rfl
theorem c_dockedCount (hN : 2000 ≤ N) (hb : bOK Θ 13 b h) (hd : DV D V) (I : Inv G H M V) : P_L_dockedCount Θ N (HD Θ b D h) (b + 1) = some (J (dct V (mny V)), HD Θ b D h) := by
  unfold P_L_dockedCount
  have h4 := I.h4
  exact c_dockedCount_L (K := fun h8 u9 => some (u9, h8)) hb hd I (V 4).toNat 0 N (by omega) (by omega)
theorem c_takenMetres_L (hb : bOK Θ 13 b h) (hd : DV D V) (I : Inv G H M V) {K : mH → Int32 → Option (Int32 × mH)} : ∀ (r j n : Nat), (j : Int) + r = V 4 → r < n → P_L_takenMetres_4 Θ N K (b + 1) n (HD Θ b D h) (J (tkn V j)) (J j) = K (HD Θ b D h) (J (tkn V (mny V))) := by
  intro r
  have h4 := I.h4
  induction r with
  | zero =>
    intro j n hj hn
    obtain ⟨n, rfl⟩ : ∃ n', n = n' + 1 := ⟨n - 1, by omega⟩
    rw [E_L_takenMetres_4, B_L_takenMetres_4, v_S4 hb hd, bo_some, if_pos (by rw [J_le] <;> omega), show mny V = j by unfold mny; omega]
  | succ r ih =>
    intro j n hj hn
    obtain ⟨n, rfl⟩ : ∃ n', n = n' + 1 := ⟨n - 1, by omega⟩
    have ih' := ih (j + 1) n (by omega) (by omega)
    rw [tkn] at ih'
    rw [E_L_takenMetres_4, B_L_takenMetres_4, v_S4 hb hd, bo_some, if_neg (by rw [J_le] <;> omega), l_A0 hb, bo_some, l_Q hb (by omega) (by omega), bo_some, v_O hb hd (by omega) (by omega), c_isDocked hb hd I (by omega) (by omega), bc_some, jn_eq, ← ih']
    by_cases c : fd V j 4 = -1
    · have c' : ¬ (fd V j 4 ≠ -1) := by simpa using c
      rw [if_neg c', if_pos (by rfl), J_add]
      simp [c]
    · rw [if_pos c, if_neg (by rw [J_0, J_eq] <;> omega)]
      dsimp only
      simp (disch := omega) only [l_A0 hb, bo_some, l_Q hb, v_I1 hb hd, J_add]
      rw [if_pos c]
      rfl
theorem c_takenMetres (hN : 2000 ≤ N) (hb : bOK Θ 13 b h) (hd : DV D V) (I : Inv G H M V) : P_L_takenMetres Θ N (HD Θ b D h) (b + 1) = some (J (tkn V (mny V)), HD Θ b D h) := by
  unfold P_L_takenMetres
  have h4 := I.h4
  exact c_takenMetres_L (K := fun h8 u9 => some (u9, h8)) hb hd I (V 4).toNat 0 N (by omega) (by omega)
theorem c_billSum_L (hb : bOK Θ 13 b h) (hd : DV D V) (I : Inv G H M V) {K : mH → Int32 → Option (Int32 × mH)} : ∀ (r j n : Nat), (j : Int) + r = V 4 → r < n → P_L_billSum_4 Θ N K (b + 1) n (HD Θ b D h) (J (smm V 8 j)) (J j) = K (HD Θ b D h) (J (smm V 8 (mny V))) := by
  intro r
  have h4 := I.h4
  induction r with
  | zero =>
    intro j n hj hn
    obtain ⟨n, rfl⟩ : ∃ n', n = n' + 1 := ⟨n - 1, by omega⟩
    rw [E_L_billSum_4, B_L_billSum_4, v_S4 hb hd, bo_some, if_pos (by rw [J_le] <;> omega), show mny V = j by unfold mny; omega]
  | succ r ih =>
    intro j n hj hn
    obtain ⟨n, rfl⟩ : ∃ n', n = n' + 1 := ⟨n - 1, by omega⟩
    have ih' := ih (j + 1) n (by omega) (by omega)
    rw [smm] at ih'
    rw [E_L_billSum_4, B_L_billSum_4, v_S4 hb hd, bo_some, if_neg (by rw [J_le] <;> omega), l_A0 hb, bo_some, l_Q hb (by omega) (by omega), bo_some, v_I8 hb hd (by omega) (by omega) (by omega), bo_some, J_add, J_add, ← ih']
    rfl
theorem c_billSum (hN : 2000 ≤ N) (hb : bOK Θ 13 b h) (hd : DV D V) (I : Inv G H M V) : P_L_billSum Θ N (HD Θ b D h) (b + 1) = some (J (smm V 8 (mny V)), HD Θ b D h) := by
  unfold P_L_billSum
  have h4 := I.h4
  exact c_billSum_L (K := fun h8 u9 => some (u9, h8)) hb hd I (V 4).toNat 0 N (by omega) (by omega)
theorem c_dirtSum_L (hb : bOK Θ 13 b h) (hd : DV D V) (I : Inv G H M V) {K : mH → Int32 → Option (Int32 × mH)} : ∀ (r j n : Nat), (j : Int) + r = V 4 → r < n → P_L_dirtSum_4 Θ N K (b + 1) n (HD Θ b D h) (J (smm V 3 j)) (J j) = K (HD Θ b D h) (J (smm V 3 (mny V))) := by
  intro r
  have h4 := I.h4
  induction r with
  | zero =>
    intro j n hj hn
    obtain ⟨n, rfl⟩ : ∃ n', n = n' + 1 := ⟨n - 1, by omega⟩
    rw [E_L_dirtSum_4, B_L_dirtSum_4, v_S4 hb hd, bo_some, if_pos (by rw [J_le] <;> omega), show mny V = j by unfold mny; omega]
  | succ r ih =>
    intro j n hj hn
    obtain ⟨n, rfl⟩ : ∃ n', n = n' + 1 := ⟨n - 1, by omega⟩
    have ih' := ih (j + 1) n (by omega) (by omega)
    rw [smm] at ih'
    rw [E_L_dirtSum_4, B_L_dirtSum_4, v_S4 hb hd, bo_some, if_neg (by rw [J_le] <;> omega), l_A0 hb, bo_some, l_Q hb (by omega) (by omega), bo_some, v_I3 hb hd (by omega) (by omega) (by omega), bo_some, J_add, J_add, ← ih']
    rfl
theorem c_dirtSum (hN : 2000 ≤ N) (hb : bOK Θ 13 b h) (hd : DV D V) (I : Inv G H M V) : P_L_dirtSum Θ N (HD Θ b D h) (b + 1) = some (J (smm V 3 (mny V)), HD Θ b D h) := by
  unfold P_L_dirtSum
  have h4 := I.h4
  exact c_dirtSum_L (K := fun h8 u9 => some (u9, h8)) hb hd I (V 4).toNat 0 N (by omega) (by omega)
theorem c_rankOf_L (hb : bOK Θ 13 b h) (hd : DV D V) (I : Inv G H M V) {k : Int} (k1 : 0 ≤ k) (k2 : k < V 4) {K : mH → Int32 → Option (Int32 × mH)} : ∀ (r j n : Nat), (j : Int) + r = V 4 → r < n → P_L_rankOf_4 Θ N K (b + 1) (b + 3 + ro D k) n (HD Θ b D h) (J (ahd V k j)) (J j) = K (HD Θ b D h) (J (ahd V k (mny V))) := by
  intro r
  have h4 := I.h4
  induction r with
  | zero =>
    intro j n hj hn
    obtain ⟨n, rfl⟩ : ∃ n', n = n' + 1 := ⟨n - 1, by omega⟩
    rw [E_L_rankOf_4, B_L_rankOf_4, v_S4 hb hd, bo_some, if_pos (by rw [J_le] <;> omega), show mny V = j by unfold mny; omega]
  | succ r ih =>
    intro j n hj hn
    obtain ⟨n, rfl⟩ : ∃ n', n = n' + 1 := ⟨n - 1, by omega⟩
    have ih' := ih (j + 1) n (by omega) (by omega)
    rw [ahd] at ih'
    rw [E_L_rankOf_4, B_L_rankOf_4, v_S4 hb hd, bo_some, if_neg (by rw [J_le] <;> omega), l_A0 hb, bo_some, l_Q hb (by omega) (by omega), bo_some, v_O hb hd (by omega) (by omega), c_ranksBefore hb hd I (by omega) (by omega) k1 k2, bc_some, jn_eq, ← ih']
    split
    · rw [if_neg (by rw [J_0, J_eq] <;> omega)]
      dsimp only
      rw [J_add, J_add]
      rfl
    · rw [if_pos (by rfl), J_add]
      simp
theorem c_rankOf (hN : 2000 ≤ N) (hb : bOK Θ 13 b h) (hd : DV D V) (I : Inv G H M V) {k : Int} (k1 : 0 ≤ k) (k2 : k < V 4) : P_L_rankOf Θ N (HD Θ b D h) (b + 1) (b + 3 + ro D k) = some (J (ahd V k (mny V)), HD Θ b D h) := by
  unfold P_L_rankOf
  have h4 := I.h4
  exact c_rankOf_L (K := fun h8 u9 => some (u9, h8)) hb hd I k1 k2 (V 4).toNat 0 N (by omega) (by omega)
end C1
