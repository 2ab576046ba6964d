/-! what is asked of the reference -/
section R6
variable {Θ : mW} {N m : Nat} {S : Nat → Int → Int} {h : mH}
theorem q_thrown (hb : bOK Θ 9 m h) : P_R_thrown Θ N (HR Θ m S h) m = some (J (S 0 13), HR Θ m S h) := by
  unfold P_R_thrown
  repeat (first | (simp (disch := first | omega | exact it01) only [jn_it1, jn_it2, bo_some, bc_some, bx_inl, bx_inr, bn_some, bn_none, J_add, J_sub, J_mul, J_neg, J_0, J_lt, J_le, J_eq, J_ite, J01_0, J01_1, ite_not, ite_self, r_A0 hb, r_A1 hb, r_A2 hb, r_A3 hb, r_I4 hb, r_W4 hb, r_I5 hb, r_W5 hb, r_I6 hb, r_W6 hb, r_I7 hb, r_W7 hb, r_I8 hb, r_W8 hb, r_A9 hb, r_I10 hb, r_W10 hb, r_A11 hb, r_I12 hb, r_W12 hb, r_I13 hb, r_W13 hb, r_A14 hb, r_I15 hb, r_W15 hb, r_I16 hb, r_W16 hb, r_I17 hb, r_W17 hb, r_I18 hb, r_W18 hb, r_A19 hb, r_O hb, r_a1 hb, r_w1 hb, r_n1 hb, r_a2 hb, r_w2 hb, r_n2 hb, r_a3 hb, r_w3 hb, r_n3 hb, r_a4 hb, r_w4 hb, r_n4 hb, r_a5 hb, r_w5 hb, r_n5 hb, r_a6 hb, r_w6 hb, r_n6 hb, r_a7 hb, r_w7 hb, r_n7 hb, r_a8 hb, r_w8 hb, r_n8 hb, r_T13 hb, s_holdsT hb, s_goesT hb, s_place, s_isIn, s_isMetre, s_ofK hb, s_of0 hb, s_doc0 hb, thr, T13_1, T13_t, T13_2, up2_nj, up2_eq, up2_ne, Int.max_eq_right, ↓reduceIte, Int.reduceEq, Int.reduceNeg, Int.reduceLT, Int.reduceLE, Int.reduceAdd, Int.reduceSub, ne_eq, not_true_eq_false, not_false_eq_true, and_self, and_true, true_and, and_false, false_and, or_true, true_or, or_false, false_or, or_self, Int.reduceMul]) | rw [jn_eq])
theorem q_shipCount (hb : bOK Θ 9 m h) : P_R_shipCount Θ N (HR Θ m S h) m = some (J (S 1 4), HR Θ m (T13 S 0) h) := by
  unfold P_R_shipCount
  repeat (first | (simp (disch := first | omega | exact it01) only [jn_it1, jn_it2, bo_some, bc_some, bx_inl, bx_inr, bn_some, bn_none, J_add, J_sub, J_mul, J_neg, J_0, J_lt, J_le, J_eq, J_ite, J01_0, J01_1, ite_not, ite_self, r_A0 hb, r_A1 hb, r_A2 hb, r_A3 hb, r_I4 hb, r_W4 hb, r_I5 hb, r_W5 hb, r_I6 hb, r_W6 hb, r_I7 hb, r_W7 hb, r_I8 hb, r_W8 hb, r_A9 hb, r_I10 hb, r_W10 hb, r_A11 hb, r_I12 hb, r_W12 hb, r_I13 hb, r_W13 hb, r_A14 hb, r_I15 hb, r_W15 hb, r_I16 hb, r_W16 hb, r_I17 hb, r_W17 hb, r_I18 hb, r_W18 hb, r_A19 hb, r_O hb, r_a1 hb, r_w1 hb, r_n1 hb, r_a2 hb, r_w2 hb, r_n2 hb, r_a3 hb, r_w3 hb, r_n3 hb, r_a4 hb, r_w4 hb, r_n4 hb, r_a5 hb, r_w5 hb, r_n5 hb, r_a6 hb, r_w6 hb, r_n6 hb, r_a7 hb, r_w7 hb, r_n7 hb, r_a8 hb, r_w8 hb, r_n8 hb, r_T13 hb, s_holdsT hb, s_goesT hb, s_place, s_isIn, s_isMetre, s_ofK hb, s_of0 hb, s_doc0 hb, thr, T13_1, T13_t, T13_2, up2_nj, up2_eq, up2_ne, Int.max_eq_right, ↓reduceIte, Int.reduceEq, Int.reduceNeg, Int.reduceLT, Int.reduceLE, Int.reduceAdd, Int.reduceSub, ne_eq, not_true_eq_false, not_false_eq_true, and_self, and_true, true_and, and_false, false_and, or_true, true_or, or_false, false_or, or_self, Int.reduceMul]) | rw [jn_eq])
  rfl
theorem q_isGateOpen (hb : bOK Θ 9 m h) (hV : OKV (S 1)) : P_R_isGateOpen Θ N (HR Θ m S h) m = some (J (if S 1 2 = 1 then 1 else 0), HR Θ m (T13 S 0) h) := by
  unfold P_R_isGateOpen
  have v2 := hV.1 2
  by_cases c : S 1 2 = 1
  · repeat (first | (simp (disch := first | omega | exact it01) only [jn_it1, jn_it2, bo_some, bc_some, bx_inl, bx_inr, bn_some, bn_none, J_add, J_sub, J_mul, J_neg, J_0, J_lt, J_le, J_eq, J_ite, J01_0, J01_1, ite_not, ite_self, r_A0 hb, r_A1 hb, r_A2 hb, r_A3 hb, r_I4 hb, r_W4 hb, r_I5 hb, r_W5 hb, r_I6 hb, r_W6 hb, r_I7 hb, r_W7 hb, r_I8 hb, r_W8 hb, r_A9 hb, r_I10 hb, r_W10 hb, r_A11 hb, r_I12 hb, r_W12 hb, r_I13 hb, r_W13 hb, r_A14 hb, r_I15 hb, r_W15 hb, r_I16 hb, r_W16 hb, r_I17 hb, r_W17 hb, r_I18 hb, r_W18 hb, r_A19 hb, r_O hb, r_a1 hb, r_w1 hb, r_n1 hb, r_a2 hb, r_w2 hb, r_n2 hb, r_a3 hb, r_w3 hb, r_n3 hb, r_a4 hb, r_w4 hb, r_n4 hb, r_a5 hb, r_w5 hb, r_n5 hb, r_a6 hb, r_w6 hb, r_n6 hb, r_a7 hb, r_w7 hb, r_n7 hb, r_a8 hb, r_w8 hb, r_n8 hb, r_T13 hb, s_holdsT hb, s_goesT hb, s_place, s_isIn, s_isMetre, s_ofK hb, s_of0 hb, s_doc0 hb, thr, T13_1, T13_t, T13_2, up2_nj, up2_eq, up2_ne, Int.max_eq_right, ↓reduceIte, Int.reduceEq, Int.reduceNeg, Int.reduceLT, Int.reduceLE, Int.reduceAdd, Int.reduceSub, ne_eq, not_true_eq_false, not_false_eq_true, and_self, and_true, true_and, and_false, false_and, or_true, true_or, or_false, false_or, or_self, Int.reduceMul, c]) | rw [jn_eq])
    rfl
  · repeat (first | (simp (disch := first | omega | exact it01) only [jn_it1, jn_it2, bo_some, bc_some, bx_inl, bx_inr, bn_some, bn_none, J_add, J_sub, J_mul, J_neg, J_0, J_lt, J_le, J_eq, J_ite, J01_0, J01_1, ite_not, ite_self, r_A0 hb, r_A1 hb, r_A2 hb, r_A3 hb, r_I4 hb, r_W4 hb, r_I5 hb, r_W5 hb, r_I6 hb, r_W6 hb, r_I7 hb, r_W7 hb, r_I8 hb, r_W8 hb, r_A9 hb, r_I10 hb, r_W10 hb, r_A11 hb, r_I12 hb, r_W12 hb, r_I13 hb, r_W13 hb, r_A14 hb, r_I15 hb, r_W15 hb, r_I16 hb, r_W16 hb, r_I17 hb, r_W17 hb, r_I18 hb, r_W18 hb, r_A19 hb, r_O hb, r_a1 hb, r_w1 hb, r_n1 hb, r_a2 hb, r_w2 hb, r_n2 hb, r_a3 hb, r_w3 hb, r_n3 hb, r_a4 hb, r_w4 hb, r_n4 hb, r_a5 hb, r_w5 hb, r_n5 hb, r_a6 hb, r_w6 hb, r_n6 hb, r_a7 hb, r_w7 hb, r_n7 hb, r_a8 hb, r_w8 hb, r_n8 hb, r_T13 hb, s_holdsT hb, s_goesT hb, s_place, s_isIn, s_isMetre, s_ofK hb, s_of0 hb, s_doc0 hb, thr, T13_1, T13_t, T13_2, up2_nj, up2_eq, up2_ne, Int.max_eq_right, ↓reduceIte, Int.reduceEq, Int.reduceNeg, Int.reduceLT, Int.reduceLE, Int.reduceAdd, Int.reduceSub, ne_eq, not_true_eq_false, not_false_eq_true, and_self, and_true, true_and, and_false, false_and, or_true, true_or, or_false, false_or, or_self, Int.reduceMul, c]) | rw [jn_eq])
    rfl
theorem q_level (hb : bOK Θ 9 m h) : P_R_level Θ N (HR Θ m S h) m = some (J (S 1 1), HR Θ m (T13 S 0) h) := by
  unfold P_R_level
  repeat (first | (simp (disch := first | omega | exact it01) only [jn_it1, jn_it2, bo_some, bc_some, bx_inl, bx_inr, bn_some, bn_none, J_add, J_sub, J_mul, J_neg, J_0, J_lt, J_le, J_eq, J_ite, J01_0, J01_1, ite_not, ite_self, r_A0 hb, r_A1 hb, r_A2 hb, r_A3 hb, r_I4 hb, r_W4 hb, r_I5 hb, r_W5 hb, r_I6 hb, r_W6 hb, r_I7 hb, r_W7 hb, r_I8 hb, r_W8 hb, r_A9 hb, r_I10 hb, r_W10 hb, r_A11 hb, r_I12 hb, r_W12 hb, r_I13 hb, r_W13 hb, r_A14 hb, r_I15 hb, r_W15 hb, r_I16 hb, r_W16 hb, r_I17 hb, r_W17 hb, r_I18 hb, r_W18 hb, r_A19 hb, r_O hb, r_a1 hb, r_w1 hb, r_n1 hb, r_a2 hb, r_w2 hb, r_n2 hb, r_a3 hb, r_w3 hb, r_n3 hb, r_a4 hb, r_w4 hb, r_n4 hb, r_a5 hb, r_w5 hb, r_n5 hb, r_a6 hb, r_w6 hb, r_n6 hb, r_a7 hb, r_w7 hb, r_n7 hb, r_a8 hb, r_w8 hb, r_n8 hb, r_T13 hb, s_holdsT hb, s_goesT hb, s_place, s_isIn, s_isMetre, s_ofK hb, s_of0 hb, s_doc0 hb, thr, T13_1, T13_t, T13_2, up2_nj, up2_eq, up2_ne, Int.max_eq_right, ↓reduceIte, Int.reduceEq, Int.reduceNeg, Int.reduceLT, Int.reduceLE, Int.reduceAdd, Int.reduceSub, ne_eq, not_true_eq_false, not_false_eq_true, and_self, and_true, true_and, and_false, false_and, or_true, true_or, or_false, false_or, or_self, Int.reduceMul]) | rw [jn_eq])
  rfl
theorem q_hour (hb : bOK Θ 9 m h) : P_R_hour Θ N (HR Θ m S h) m = some (J (S 1 0), HR Θ m (T13 S 0) h) := by
  unfold P_R_hour
  repeat (first | (simp (disch := first | omega | exact it01) only [jn_it1, jn_it2, bo_some, bc_some, bx_inl, bx_inr, bn_some, bn_none, J_add, J_sub, J_mul, J_neg, J_0, J_lt, J_le, J_eq, J_ite, J01_0, J01_1, ite_not, ite_self, r_A0 hb, r_A1 hb, r_A2 hb, r_A3 hb, r_I4 hb, r_W4 hb, r_I5 hb, r_W5 hb, r_I6 hb, r_W6 hb, r_I7 hb, r_W7 hb, r_I8 hb, r_W8 hb, r_A9 hb, r_I10 hb, r_W10 hb, r_A11 hb, r_I12 hb, r_W12 hb, r_I13 hb, r_W13 hb, r_A14 hb, r_I15 hb, r_W15 hb, r_I16 hb, r_W16 hb, r_I17 hb, r_W17 hb, r_I18 hb, r_W18 hb, r_A19 hb, r_O hb, r_a1 hb, r_w1 hb, r_n1 hb, r_a2 hb, r_w2 hb, r_n2 hb, r_a3 hb, r_w3 hb, r_n3 hb, r_a4 hb, r_w4 hb, r_n4 hb, r_a5 hb, r_w5 hb, r_n5 hb, r_a6 hb, r_w6 hb, r_n6 hb, r_a7 hb, r_w7 hb, r_n7 hb, r_a8 hb, r_w8 hb, r_n8 hb, r_T13 hb, s_holdsT hb, s_goesT hb, s_place, s_isIn, s_isMetre, s_ofK hb, s_of0 hb, s_doc0 hb, thr, T13_1, T13_t, T13_2, up2_nj, up2_eq, up2_ne, Int.max_eq_right, ↓reduceIte, Int.reduceEq, Int.reduceNeg, Int.reduceLT, Int.reduceLE, Int.reduceAdd, Int.reduceSub, ne_eq, not_true_eq_false, not_false_eq_true, and_self, and_true, true_and, and_false, false_and, or_true, true_or, or_false, false_or, or_self, Int.reduceMul]) | rw [jn_eq])
  rfl
theorem q_paidTotal (hb : bOK Θ 9 m h) : P_R_paidTotal Θ N (HR Θ m S h) m = some (J (S 1 7), HR Θ m (T13 S 0) h) := by
  unfold P_R_paidTotal
  repeat (first | (simp (disch := first | omega | exact it01) only [jn_it1, jn_it2, bo_some, bc_some, bx_inl, bx_inr, bn_some, bn_none, J_add, J_sub, J_mul, J_neg, J_0, J_lt, J_le, J_eq, J_ite, J01_0, J01_1, ite_not, ite_self, r_A0 hb, r_A1 hb, r_A2 hb, r_A3 hb, r_I4 hb, r_W4 hb, r_I5 hb, r_W5 hb, r_I6 hb, r_W6 hb, r_I7 hb, r_W7 hb, r_I8 hb, r_W8 hb, r_A9 hb, r_I10 hb, r_W10 hb, r_A11 hb, r_I12 hb, r_W12 hb, r_I13 hb, r_W13 hb, r_A14 hb, r_I15 hb, r_W15 hb, r_I16 hb, r_W16 hb, r_I17 hb, r_W17 hb, r_I18 hb, r_W18 hb, r_A19 hb, r_O hb, r_a1 hb, r_w1 hb, r_n1 hb, r_a2 hb, r_w2 hb, r_n2 hb, r_a3 hb, r_w3 hb, r_n3 hb, r_a4 hb, r_w4 hb, r_n4 hb, r_a5 hb, r_w5 hb, r_n5 hb, r_a6 hb, r_w6 hb, r_n6 hb, r_a7 hb, r_w7 hb, r_n7 hb, r_a8 hb, r_w8 hb, r_n8 hb, r_T13 hb, s_holdsT hb, s_goesT hb, s_place, s_isIn, s_isMetre, s_ofK hb, s_of0 hb, s_doc0 hb, thr, T13_1, T13_t, T13_2, up2_nj, up2_eq, up2_ne, Int.max_eq_right, ↓reduceIte, Int.reduceEq, Int.reduceNeg, Int.reduceLT, Int.reduceLE, Int.reduceAdd, Int.reduceSub, ne_eq, not_true_eq_false, not_false_eq_true, and_self, and_true, true_and, and_false, false_and, or_true, true_or, or_false, false_or, or_self, Int.reduceMul]) | rw [jn_eq])
  rfl
theorem q_billTotalByAccount (hb : bOK Θ 9 m h) : P_R_billTotalByAccount Θ N (HR Θ m S h) m = some (J (S 1 6 - S 1 7), HR Θ m (T13 S 0) h) := by
  unfold P_R_billTotalByAccount
  repeat (first | (simp (disch := first | omega | exact it01) only [jn_it1, jn_it2, bo_some, bc_some, bx_inl, bx_inr, bn_some, bn_none, J_add, J_sub, J_mul, J_neg, J_0, J_lt, J_le, J_eq, J_ite, J01_0, J01_1, ite_not, ite_self, r_A0 hb, r_A1 hb, r_A2 hb, r_A3 hb, r_I4 hb, r_W4 hb, r_I5 hb, r_W5 hb, r_I6 hb, r_W6 hb, r_I7 hb, r_W7 hb, r_I8 hb, r_W8 hb, r_A9 hb, r_I10 hb, r_W10 hb, r_A11 hb, r_I12 hb, r_W12 hb, r_I13 hb, r_W13 hb, r_A14 hb, r_I15 hb, r_W15 hb, r_I16 hb, r_W16 hb, r_I17 hb, r_W17 hb, r_I18 hb, r_W18 hb, r_A19 hb, r_O hb, r_a1 hb, r_w1 hb, r_n1 hb, r_a2 hb, r_w2 hb, r_n2 hb, r_a3 hb, r_w3 hb, r_n3 hb, r_a4 hb, r_w4 hb, r_n4 hb, r_a5 hb, r_w5 hb, r_n5 hb, r_a6 hb, r_w6 hb, r_n6 hb, r_a7 hb, r_w7 hb, r_n7 hb, r_a8 hb, r_w8 hb, r_n8 hb, r_T13 hb, s_holdsT hb, s_goesT hb, s_place, s_isIn, s_isMetre, s_ofK hb, s_of0 hb, s_doc0 hb, thr, T13_1, T13_t, T13_2, up2_nj, up2_eq, up2_ne, Int.max_eq_right, ↓reduceIte, Int.reduceEq, Int.reduceNeg, Int.reduceLT, Int.reduceLE, Int.reduceAdd, Int.reduceSub, ne_eq, not_true_eq_false, not_false_eq_true, and_self, and_true, true_and, and_false, false_and, or_true, true_or, or_false, false_or, or_self, Int.reduceMul]) | rw [jn_eq])
  rfl
theorem q_isConsistent (hb : bOK Θ 9 m h) : P_R_isConsistent Θ N (HR Θ m S h) m = some (J 1, HR Θ m (T13 S 0) h) := by
  unfold P_R_isConsistent
  repeat (first | (simp (disch := first | omega | exact it01) only [jn_it1, jn_it2, bo_some, bc_some, bx_inl, bx_inr, bn_some, bn_none, J_add, J_sub, J_mul, J_neg, J_0, J_lt, J_le, J_eq, J_ite, J01_0, J01_1, ite_not, ite_self, r_A0 hb, r_A1 hb, r_A2 hb, r_A3 hb, r_I4 hb, r_W4 hb, r_I5 hb, r_W5 hb, r_I6 hb, r_W6 hb, r_I7 hb, r_W7 hb, r_I8 hb, r_W8 hb, r_A9 hb, r_I10 hb, r_W10 hb, r_A11 hb, r_I12 hb, r_W12 hb, r_I13 hb, r_W13 hb, r_A14 hb, r_I15 hb, r_W15 hb, r_I16 hb, r_W16 hb, r_I17 hb, r_W17 hb, r_I18 hb, r_W18 hb, r_A19 hb, r_O hb, r_a1 hb, r_w1 hb, r_n1 hb, r_a2 hb, r_w2 hb, r_n2 hb, r_a3 hb, r_w3 hb, r_n3 hb, r_a4 hb, r_w4 hb, r_n4 hb, r_a5 hb, r_w5 hb, r_n5 hb, r_a6 hb, r_w6 hb, r_n6 hb, r_a7 hb, r_w7 hb, r_n7 hb, r_a8 hb, r_w8 hb, r_n8 hb, r_T13 hb, s_holdsT hb, s_goesT hb, s_place, s_isIn, s_isMetre, s_ofK hb, s_of0 hb, s_doc0 hb, thr, T13_1, T13_t, T13_2, up2_nj, up2_eq, up2_ne, Int.max_eq_right, ↓reduceIte, Int.reduceEq, Int.reduceNeg, Int.reduceLT, Int.reduceLE, Int.reduceAdd, Int.reduceSub, ne_eq, not_true_eq_false, not_false_eq_true, and_self, and_true, true_and, and_false, false_and, or_true, true_or, or_false, false_or, or_self, Int.reduceMul]) | rw [jn_eq])
  rfl
theorem q_billTotal (hN : 2000 ≤ N) (hb : bOK Θ 9 m h) (hV : OKV (S 1)) : P_R_billTotal Θ N (HR Θ m S h) m = some (J (smm (S 1) 8 (mny (S 1))), HR Θ m (T13 S 0) h) := by
  unfold P_R_billTotal
  rw [r_W13 hb, bo_some, r_O hb]
  have hT : OKV (T13 S 0 1) := by rw [T13_1]; exact hV
  have e := s_sum (Θ := Θ) (m := m) (h := h) hN hb hT (i := 8) (by omega) (by omega)
  rw [T13_1] at e
  exact (congrArg (fun q => bc q _) e).trans rfl
theorem q_shipAt (hb : bOK Θ 9 m h) (hV : OKV (S 1)) {p : Int} (i1 : -2147483648 ≤ p) (i2 : p < 2147483648) : P_R_shipAt Θ N (HR Θ m S h) m (J p) = if 0 ≤ p ∧ p ≤ S 1 4 - 1 then some (J (fd (S 1) p 0), HR Θ m (T13 S 0) h) else some (J 0, HR Θ m (T13 S 1) h) := by
  unfold P_R_shipAt
  have hm := hV.2
  by_cases c : 0 ≤ p ∧ p ≤ S 1 4 - 1
  · repeat (first | (simp (disch := first | omega | exact it01) only [jn_it1, jn_it2, bo_some, bc_some, bx_inl, bx_inr, bn_some, bn_none, J_add, J_sub, J_mul, J_neg, J_0, J_lt, J_le, J_eq, J_ite, J01_0, J01_1, ite_not, ite_self, r_A0 hb, r_A1 hb, r_A2 hb, r_A3 hb, r_I4 hb, r_W4 hb, r_I5 hb, r_W5 hb, r_I6 hb, r_W6 hb, r_I7 hb, r_W7 hb, r_I8 hb, r_W8 hb, r_A9 hb, r_I10 hb, r_W10 hb, r_A11 hb, r_I12 hb, r_W12 hb, r_I13 hb, r_W13 hb, r_A14 hb, r_I15 hb, r_W15 hb, r_I16 hb, r_W16 hb, r_I17 hb, r_W17 hb, r_I18 hb, r_W18 hb, r_A19 hb, r_O hb, r_a1 hb, r_w1 hb, r_n1 hb, r_a2 hb, r_w2 hb, r_n2 hb, r_a3 hb, r_w3 hb, r_n3 hb, r_a4 hb, r_w4 hb, r_n4 hb, r_a5 hb, r_w5 hb, r_n5 hb, r_a6 hb, r_w6 hb, r_n6 hb, r_a7 hb, r_w7 hb, r_n7 hb, r_a8 hb, r_w8 hb, r_n8 hb, r_T13 hb, s_holdsT hb, s_goesT hb, s_place, s_isIn, s_isMetre, s_ofK hb, s_of0 hb, s_doc0 hb, thr, T13_1, T13_t, T13_2, up2_nj, up2_eq, up2_ne, Int.max_eq_right, ↓reduceIte, Int.reduceEq, Int.reduceNeg, Int.reduceLT, Int.reduceLE, Int.reduceAdd, Int.reduceSub, ne_eq, not_true_eq_false, not_false_eq_true, and_self, and_true, true_and, and_false, false_and, or_true, true_or, or_false, false_or, or_self, Int.reduceMul, c]) | rw [jn_eq])
  · repeat (first | (simp (disch := first | omega | exact it01) only [jn_it1, jn_it2, bo_some, bc_some, bx_inl, bx_inr, bn_some, bn_none, J_add, J_sub, J_mul, J_neg, J_0, J_lt, J_le, J_eq, J_ite, J01_0, J01_1, ite_not, ite_self, r_A0 hb, r_A1 hb, r_A2 hb, r_A3 hb, r_I4 hb, r_W4 hb, r_I5 hb, r_W5 hb, r_I6 hb, r_W6 hb, r_I7 hb, r_W7 hb, r_I8 hb, r_W8 hb, r_A9 hb, r_I10 hb, r_W10 hb, r_A11 hb, r_I12 hb, r_W12 hb, r_I13 hb, r_W13 hb, r_A14 hb, r_I15 hb, r_W15 hb, r_I16 hb, r_W16 hb, r_I17 hb, r_W17 hb, r_I18 hb, r_W18 hb, r_A19 hb, r_O hb, r_a1 hb, r_w1 hb, r_n1 hb, r_a2 hb, r_w2 hb, r_n2 hb, r_a3 hb, r_w3 hb, r_n3 hb, r_a4 hb, r_w4 hb, r_n4 hb, r_a5 hb, r_w5 hb, r_n5 hb, r_a6 hb, r_w6 hb, r_n6 hb, r_a7 hb, r_w7 hb, r_n7 hb, r_a8 hb, r_w8 hb, r_n8 hb, r_T13 hb, s_holdsT hb, s_goesT hb, s_place, s_isIn, s_isMetre, s_ofK hb, s_of0 hb, s_doc0 hb, thr, T13_1, T13_t, T13_2, up2_nj, up2_eq, up2_ne, Int.max_eq_right, ↓reduceIte, Int.reduceEq, Int.reduceNeg, Int.reduceLT, Int.reduceLE, Int.reduceAdd, Int.reduceSub, ne_eq, not_true_eq_false, not_false_eq_true, and_self, and_true, true_and, and_false, false_and, or_true, true_or, or_false, false_or, or_self, Int.reduceMul, c]) | rw [jn_eq])
theorem q_asks (hN : 2000 ≤ N) (hb : bOK Θ 9 m h) (hV : OKV (S 1)) {id i : Int} (i1 : -2147483648 ≤ id) (i2 : id < 2147483648) (i3 : 0 ≤ i) (i4 : i ≤ 8) : P_R_asks Θ N (HR Θ m S h) m (J id) (J i) = if fnd (S 1) id (mny (S 1)) = -1 then some (J 0, HR Θ m (T13 S 1) h) else some (J (fd (S 1) (fnd (S 1) id (mny (S 1))) i), HR Θ m (T13 S 0) h) := by
  unfold P_R_asks
  have hw := fnd_rng (S := S) hV (id := id)
  rw [r_O hb, s_find hN hb hV i1 i2, bc_some]
  generalize fnd (S 1) id (mny (S 1)) = w at hw ⊢
  have hm := hV.2
  by_cases c1 : w = -1
  · subst c1
    repeat (first | (simp (disch := first | omega | exact it01) only [jn_it1, jn_it2, bo_some, bc_some, bx_inl, bx_inr, bn_some, bn_none, J_add, J_sub, J_mul, J_neg, J_0, J_lt, J_le, J_eq, J_ite, J01_0, J01_1, ite_not, ite_self, r_A0 hb, r_A1 hb, r_A2 hb, r_A3 hb, r_I4 hb, r_W4 hb, r_I5 hb, r_W5 hb, r_I6 hb, r_W6 hb, r_I7 hb, r_W7 hb, r_I8 hb, r_W8 hb, r_A9 hb, r_I10 hb, r_W10 hb, r_A11 hb, r_I12 hb, r_W12 hb, r_I13 hb, r_W13 hb, r_A14 hb, r_I15 hb, r_W15 hb, r_I16 hb, r_W16 hb, r_I17 hb, r_W17 hb, r_I18 hb, r_W18 hb, r_A19 hb, r_O hb, r_a1 hb, r_w1 hb, r_n1 hb, r_a2 hb, r_w2 hb, r_n2 hb, r_a3 hb, r_w3 hb, r_n3 hb, r_a4 hb, r_w4 hb, r_n4 hb, r_a5 hb, r_w5 hb, r_n5 hb, r_a6 hb, r_w6 hb, r_n6 hb, r_a7 hb, r_w7 hb, r_n7 hb, r_a8 hb, r_w8 hb, r_n8 hb, r_T13 hb, s_holdsT hb, s_goesT hb, s_place, s_isIn, s_isMetre, s_ofK hb, s_of0 hb, s_doc0 hb, thr, T13_1, T13_t, T13_2, up2_nj, up2_eq, up2_ne, Int.max_eq_right, ↓reduceIte, Int.reduceEq, Int.reduceNeg, Int.reduceLT, Int.reduceLE, Int.reduceAdd, Int.reduceSub, ne_eq, not_true_eq_false, not_false_eq_true, and_self, and_true, true_and, and_false, false_and, or_true, true_or, or_false, false_or, or_self, Int.reduceMul]) | rw [jn_eq])
  · repeat (first | (simp (disch := first | omega | exact it01) only [jn_it1, jn_it2, bo_some, bc_some, bx_inl, bx_inr, bn_some, bn_none, J_add, J_sub, J_mul, J_neg, J_0, J_lt, J_le, J_eq, J_ite, J01_0, J01_1, ite_not, ite_self, r_A0 hb, r_A1 hb, r_A2 hb, r_A3 hb, r_I4 hb, r_W4 hb, r_I5 hb, r_W5 hb, r_I6 hb, r_W6 hb, r_I7 hb, r_W7 hb, r_I8 hb, r_W8 hb, r_A9 hb, r_I10 hb, r_W10 hb, r_A11 hb, r_I12 hb, r_W12 hb, r_I13 hb, r_W13 hb, r_A14 hb, r_I15 hb, r_W15 hb, r_I16 hb, r_W16 hb, r_I17 hb, r_W17 hb, r_I18 hb, r_W18 hb, r_A19 hb, r_O hb, r_a1 hb, r_w1 hb, r_n1 hb, r_a2 hb, r_w2 hb, r_n2 hb, r_a3 hb, r_w3 hb, r_n3 hb, r_a4 hb, r_w4 hb, r_n4 hb, r_a5 hb, r_w5 hb, r_n5 hb, r_a6 hb, r_w6 hb, r_n6 hb, r_a7 hb, r_w7 hb, r_n7 hb, r_a8 hb, r_w8 hb, r_n8 hb, r_T13 hb, s_holdsT hb, s_goesT hb, s_place, s_isIn, s_isMetre, s_ofK hb, s_of0 hb, s_doc0 hb, thr, T13_1, T13_t, T13_2, up2_nj, up2_eq, up2_ne, Int.max_eq_right, ↓reduceIte, Int.reduceEq, Int.reduceNeg, Int.reduceLT, Int.reduceLE, Int.reduceAdd, Int.reduceSub, ne_eq, not_true_eq_false, not_false_eq_true, and_self, and_true, true_and, and_false, false_and, or_true, true_or, or_false, false_or, or_self, Int.reduceMul, c1]) | rw [jn_eq])
theorem q_isInDock (hN : 2000 ≤ N) (hb : bOK Θ 9 m h) (hV : OKV (S 1)) {id : Int} (i1 : -2147483648 ≤ id) (i2 : id < 2147483648) : P_R_isInDock Θ N (HR Θ m S h) m (J id) = if fnd (S 1) id (mny (S 1)) = -1 then some (J 0, HR Θ m (T13 S 1) h) else some (J (if fd (S 1) (fnd (S 1) id (mny (S 1))) 4 ≠ -1 then 1 else 0), HR Θ m (T13 S 0) h) := by
  unfold P_R_isInDock
  rw [r_O hb, q_asks hN hb hV i1 i2 (by omega) (by omega)]
  generalize fnd (S 1) id (mny (S 1)) = w
  have b4 := hV.fd w 4
  by_cases c1 : w = -1
  · repeat (first | (simp (disch := first | omega | exact it01) only [jn_it1, jn_it2, bo_some, bc_some, bx_inl, bx_inr, bn_some, bn_none, J_add, J_sub, J_mul, J_neg, J_0, J_lt, J_le, J_eq, J_ite, J01_0, J01_1, ite_not, ite_self, r_A0 hb, r_A1 hb, r_A2 hb, r_A3 hb, r_I4 hb, r_W4 hb, r_I5 hb, r_W5 hb, r_I6 hb, r_W6 hb, r_I7 hb, r_W7 hb, r_I8 hb, r_W8 hb, r_A9 hb, r_I10 hb, r_W10 hb, r_A11 hb, r_I12 hb, r_W12 hb, r_I13 hb, r_W13 hb, r_A14 hb, r_I15 hb, r_W15 hb, r_I16 hb, r_W16 hb, r_I17 hb, r_W17 hb, r_I18 hb, r_W18 hb, r_A19 hb, r_O hb, r_a1 hb, r_w1 hb, r_n1 hb, r_a2 hb, r_w2 hb, r_n2 hb, r_a3 hb, r_w3 hb, r_n3 hb, r_a4 hb, r_w4 hb, r_n4 hb, r_a5 hb, r_w5 hb, r_n5 hb, r_a6 hb, r_w6 hb, r_n6 hb, r_a7 hb, r_w7 hb, r_n7 hb, r_a8 hb, r_w8 hb, r_n8 hb, r_T13 hb, s_holdsT hb, s_goesT hb, s_place, s_isIn, s_isMetre, s_ofK hb, s_of0 hb, s_doc0 hb, thr, T13_1, T13_t, T13_2, up2_nj, up2_eq, up2_ne, Int.max_eq_right, ↓reduceIte, Int.reduceEq, Int.reduceNeg, Int.reduceLT, Int.reduceLE, Int.reduceAdd, Int.reduceSub, ne_eq, not_true_eq_false, not_false_eq_true, and_self, and_true, true_and, and_false, false_and, or_true, true_or, or_false, false_or, or_self, Int.reduceMul, c1]) | rw [jn_eq])
  · by_cases c2 : fd (S 1) w 4 = -1
    · repeat (first | (simp (disch := first | omega | exact it01) only [jn_it1, jn_it2, bo_some, bc_some, bx_inl, bx_inr, bn_some, bn_none, J_add, J_sub, J_mul, J_neg, J_0, J_lt, J_le, J_eq, J_ite, J01_0, J01_1, ite_not, ite_self, r_A0 hb, r_A1 hb, r_A2 hb, r_A3 hb, r_I4 hb, r_W4 hb, r_I5 hb, r_W5 hb, r_I6 hb, r_W6 hb, r_I7 hb, r_W7 hb, r_I8 hb, r_W8 hb, r_A9 hb, r_I10 hb, r_W10 hb, r_A11 hb, r_I12 hb, r_W12 hb, r_I13 hb, r_W13 hb, r_A14 hb, r_I15 hb, r_W15 hb, r_I16 hb, r_W16 hb, r_I17 hb, r_W17 hb, r_I18 hb, r_W18 hb, r_A19 hb, r_O hb, r_a1 hb, r_w1 hb, r_n1 hb, r_a2 hb, r_w2 hb, r_n2 hb, r_a3 hb, r_w3 hb, r_n3 hb, r_a4 hb, r_w4 hb, r_n4 hb, r_a5 hb, r_w5 hb, r_n5 hb, r_a6 hb, r_w6 hb, r_n6 hb, r_a7 hb, r_w7 hb, r_n7 hb, r_a8 hb, r_w8 hb, r_n8 hb, r_T13 hb, s_holdsT hb, s_goesT hb, s_place, s_isIn, s_isMetre, s_ofK hb, s_of0 hb, s_doc0 hb, thr, T13_1, T13_t, T13_2, up2_nj, up2_eq, up2_ne, Int.max_eq_right, ↓reduceIte, Int.reduceEq, Int.reduceNeg, Int.reduceLT, Int.reduceLE, Int.reduceAdd, Int.reduceSub, ne_eq, not_true_eq_false, not_false_eq_true, and_self, and_true, true_and, and_false, false_and, or_true, true_or, or_false, false_or, or_self, Int.reduceMul, c1, c2]) | rw [jn_eq])
    · repeat (first | (simp (disch := first | omega | exact it01) only [jn_it1, jn_it2, bo_some, bc_some, bx_inl, bx_inr, bn_some, bn_none, J_add, J_sub, J_mul, J_neg, J_0, J_lt, J_le, J_eq, J_ite, J01_0, J01_1, ite_not, ite_self, r_A0 hb, r_A1 hb, r_A2 hb, r_A3 hb, r_I4 hb, r_W4 hb, r_I5 hb, r_W5 hb, r_I6 hb, r_W6 hb, r_I7 hb, r_W7 hb, r_I8 hb, r_W8 hb, r_A9 hb, r_I10 hb, r_W10 hb, r_A11 hb, r_I12 hb, r_W12 hb, r_I13 hb, r_W13 hb, r_A14 hb, r_I15 hb, r_W15 hb, r_I16 hb, r_W16 hb, r_I17 hb, r_W17 hb, r_I18 hb, r_W18 hb, r_A19 hb, r_O hb, r_a1 hb, r_w1 hb, r_n1 hb, r_a2 hb, r_w2 hb, r_n2 hb, r_a3 hb, r_w3 hb, r_n3 hb, r_a4 hb, r_w4 hb, r_n4 hb, r_a5 hb, r_w5 hb, r_n5 hb, r_a6 hb, r_w6 hb, r_n6 hb, r_a7 hb, r_w7 hb, r_n7 hb, r_a8 hb, r_w8 hb, r_n8 hb, r_T13 hb, s_holdsT hb, s_goesT hb, s_place, s_isIn, s_isMetre, s_ofK hb, s_of0 hb, s_doc0 hb, thr, T13_1, T13_t, T13_2, up2_nj, up2_eq, up2_ne, Int.max_eq_right, ↓reduceIte, Int.reduceEq, Int.reduceNeg, Int.reduceLT, Int.reduceLE, Int.reduceAdd, Int.reduceSub, ne_eq, not_true_eq_false, not_false_eq_true, and_self, and_true, true_and, and_false, false_and, or_true, true_or, or_false, false_or, or_self, Int.reduceMul, c1, c2]) | rw [jn_eq])
theorem q_positionOf (hN : 2000 ≤ N) (hb : bOK Θ 9 m h) (hV : OKV (S 1)) {id : Int} (i1 : -2147483648 ≤ id) (i2 : id < 2147483648) : P_R_positionOf Θ N (HR Θ m S h) m (J id) = if fnd (S 1) id (mny (S 1)) = -1 then some (J 0, HR Θ m (T13 S 1) h) else if fd (S 1) (fnd (S 1) id (mny (S 1))) 4 = -1 then some (J 0, HR Θ m (T13 S 2) h) else some (J (fd (S 1) (fnd (S 1) id (mny (S 1))) 4), HR Θ m (T13 S 0) h) := by
  unfold P_R_positionOf
  have hw := fnd_rng (S := S) hV (id := id)
  rw [r_O hb, s_find hN hb hV i1 i2, bc_some]
  generalize fnd (S 1) id (mny (S 1)) = w at hw ⊢
  have hm := hV.2
  by_cases c1 : w = -1
  · subst c1
    repeat (first | (simp (disch := first | omega | exact it01) only [jn_it1, jn_it2, bo_some, bc_some, bx_inl, bx_inr, bn_some, bn_none, J_add, J_sub, J_mul, J_neg, J_0, J_lt, J_le, J_eq, J_ite, J01_0, J01_1, ite_not, ite_self, r_A0 hb, r_A1 hb, r_A2 hb, r_A3 hb, r_I4 hb, r_W4 hb, r_I5 hb, r_W5 hb, r_I6 hb, r_W6 hb, r_I7 hb, r_W7 hb, r_I8 hb, r_W8 hb, r_A9 hb, r_I10 hb, r_W10 hb, r_A11 hb, r_I12 hb, r_W12 hb, r_I13 hb, r_W13 hb, r_A14 hb, r_I15 hb, r_W15 hb, r_I16 hb, r_W16 hb, r_I17 hb, r_W17 hb, r_I18 hb, r_W18 hb, r_A19 hb, r_O hb, r_a1 hb, r_w1 hb, r_n1 hb, r_a2 hb, r_w2 hb, r_n2 hb, r_a3 hb, r_w3 hb, r_n3 hb, r_a4 hb, r_w4 hb, r_n4 hb, r_a5 hb, r_w5 hb, r_n5 hb, r_a6 hb, r_w6 hb, r_n6 hb, r_a7 hb, r_w7 hb, r_n7 hb, r_a8 hb, r_w8 hb, r_n8 hb, r_T13 hb, s_holdsT hb, s_goesT hb, s_place, s_isIn, s_isMetre, s_ofK hb, s_of0 hb, s_doc0 hb, thr, T13_1, T13_t, T13_2, up2_nj, up2_eq, up2_ne, Int.max_eq_right, ↓reduceIte, Int.reduceEq, Int.reduceNeg, Int.reduceLT, Int.reduceLE, Int.reduceAdd, Int.reduceSub, ne_eq, not_true_eq_false, not_false_eq_true, and_self, and_true, true_and, and_false, false_and, or_true, true_or, or_false, false_or, or_self, Int.reduceMul]) | rw [jn_eq])
  · by_cases c2 : fd (S 1) w 4 = -1
    · repeat (first | (simp (disch := first | omega | exact it01) only [jn_it1, jn_it2, bo_some, bc_some, bx_inl, bx_inr, bn_some, bn_none, J_add, J_sub, J_mul, J_neg, J_0, J_lt, J_le, J_eq, J_ite, J01_0, J01_1, ite_not, ite_self, r_A0 hb, r_A1 hb, r_A2 hb, r_A3 hb, r_I4 hb, r_W4 hb, r_I5 hb, r_W5 hb, r_I6 hb, r_W6 hb, r_I7 hb, r_W7 hb, r_I8 hb, r_W8 hb, r_A9 hb, r_I10 hb, r_W10 hb, r_A11 hb, r_I12 hb, r_W12 hb, r_I13 hb, r_W13 hb, r_A14 hb, r_I15 hb, r_W15 hb, r_I16 hb, r_W16 hb, r_I17 hb, r_W17 hb, r_I18 hb, r_W18 hb, r_A19 hb, r_O hb, r_a1 hb, r_w1 hb, r_n1 hb, r_a2 hb, r_w2 hb, r_n2 hb, r_a3 hb, r_w3 hb, r_n3 hb, r_a4 hb, r_w4 hb, r_n4 hb, r_a5 hb, r_w5 hb, r_n5 hb, r_a6 hb, r_w6 hb, r_n6 hb, r_a7 hb, r_w7 hb, r_n7 hb, r_a8 hb, r_w8 hb, r_n8 hb, r_T13 hb, s_holdsT hb, s_goesT hb, s_place, s_isIn, s_isMetre, s_ofK hb, s_of0 hb, s_doc0 hb, thr, T13_1, T13_t, T13_2, up2_nj, up2_eq, up2_ne, Int.max_eq_right, ↓reduceIte, Int.reduceEq, Int.reduceNeg, Int.reduceLT, Int.reduceLE, Int.reduceAdd, Int.reduceSub, ne_eq, not_true_eq_false, not_false_eq_true, and_self, and_true, true_and, and_false, false_and, or_true, true_or, or_false, false_or, or_self, Int.reduceMul, c1, c2, s_docK hb hV]) | rw [jn_eq])
    · repeat (first | (simp (disch := first | omega | exact it01) only [jn_it1, jn_it2, bo_some, bc_some, bx_inl, bx_inr, bn_some, bn_none, J_add, J_sub, J_mul, J_neg, J_0, J_lt, J_le, J_eq, J_ite, J01_0, J01_1, ite_not, ite_self, r_A0 hb, r_A1 hb, r_A2 hb, r_A3 hb, r_I4 hb, r_W4 hb, r_I5 hb, r_W5 hb, r_I6 hb, r_W6 hb, r_I7 hb, r_W7 hb, r_I8 hb, r_W8 hb, r_A9 hb, r_I10 hb, r_W10 hb, r_A11 hb, r_I12 hb, r_W12 hb, r_I13 hb, r_W13 hb, r_A14 hb, r_I15 hb, r_W15 hb, r_I16 hb, r_W16 hb, r_I17 hb, r_W17 hb, r_I18 hb, r_W18 hb, r_A19 hb, r_O hb, r_a1 hb, r_w1 hb, r_n1 hb, r_a2 hb, r_w2 hb, r_n2 hb, r_a3 hb, r_w3 hb, r_n3 hb, r_a4 hb, r_w4 hb, r_n4 hb, r_a5 hb, r_w5 hb, r_n5 hb, r_a6 hb, r_w6 hb, r_n6 hb, r_a7 hb, r_w7 hb, r_n7 hb, r_a8 hb, r_w8 hb, r_n8 hb, r_T13 hb, s_holdsT hb, s_goesT hb, s_place, s_isIn, s_isMetre, s_ofK hb, s_of0 hb, s_doc0 hb, thr, T13_1, T13_t, T13_2, up2_nj, up2_eq, up2_ne, Int.max_eq_right, ↓reduceIte, Int.reduceEq, Int.reduceNeg, Int.reduceLT, Int.reduceLE, Int.reduceAdd, Int.reduceSub, ne_eq, not_true_eq_false, not_false_eq_true, and_self, and_true, true_and, and_false, false_and, or_true, true_or, or_false, false_or, or_self, Int.reduceMul, c1, c2, s_docK hb hV]) | rw [jn_eq])
theorem q_isAfloat (hN : 2000 ≤ N) (hb : bOK Θ 9 m h) (hV : OKV (S 1)) {id : Int} (i1 : -2147483648 ≤ id) (i2 : id < 2147483648) : P_R_isAfloat Θ N (HR Θ m S h) m (J id) = if fnd (S 1) id (mny (S 1)) = -1 then some (J 0, HR Θ m (T13 S 1) h) else some (J (if fd (S 1) (fnd (S 1) id (mny (S 1))) 4 = -1 ∨ fd (S 1) (fnd (S 1) id (mny (S 1))) 2 ≤ S 1 1 then 1 else 0), HR Θ m (T13 S 0) h) := by
  unfold P_R_isAfloat
  have hw := fnd_rng (S := S) hV (id := id)
  rw [r_O hb, s_find hN hb hV i1 i2, bc_some]
  generalize fnd (S 1) id (mny (S 1)) = w at hw ⊢
  have hm := hV.2
  have hT : OKV (T13 S 0 1) := by rw [T13_1]; exact hV
  by_cases c1 : w = -1
  · subst c1
    repeat (first | (simp (disch := first | omega | exact it01) only [jn_it1, jn_it2, bo_some, bc_some, bx_inl, bx_inr, bn_some, bn_none, J_add, J_sub, J_mul, J_neg, J_0, J_lt, J_le, J_eq, J_ite, J01_0, J01_1, ite_not, ite_self, r_A0 hb, r_A1 hb, r_A2 hb, r_A3 hb, r_I4 hb, r_W4 hb, r_I5 hb, r_W5 hb, r_I6 hb, r_W6 hb, r_I7 hb, r_W7 hb, r_I8 hb, r_W8 hb, r_A9 hb, r_I10 hb, r_W10 hb, r_A11 hb, r_I12 hb, r_W12 hb, r_I13 hb, r_W13 hb, r_A14 hb, r_I15 hb, r_W15 hb, r_I16 hb, r_W16 hb, r_I17 hb, r_W17 hb, r_I18 hb, r_W18 hb, r_A19 hb, r_O hb, r_a1 hb, r_w1 hb, r_n1 hb, r_a2 hb, r_w2 hb, r_n2 hb, r_a3 hb, r_w3 hb, r_n3 hb, r_a4 hb, r_w4 hb, r_n4 hb, r_a5 hb, r_w5 hb, r_n5 hb, r_a6 hb, r_w6 hb, r_n6 hb, r_a7 hb, r_w7 hb, r_n7 hb, r_a8 hb, r_w8 hb, r_n8 hb, r_T13 hb, s_holdsT hb, s_goesT hb, s_place, s_isIn, s_isMetre, s_ofK hb, s_of0 hb, s_doc0 hb, thr, T13_1, T13_t, T13_2, up2_nj, up2_eq, up2_ne, Int.max_eq_right, ↓reduceIte, Int.reduceEq, Int.reduceNeg, Int.reduceLT, Int.reduceLE, Int.reduceAdd, Int.reduceSub, ne_eq, not_true_eq_false, not_false_eq_true, and_self, and_true, true_and, and_false, false_and, or_true, true_or, or_false, false_or, or_self, Int.reduceMul]) | rw [jn_eq])
  · by_cases c2 : fd (S 1) w 4 = -1 ∨ fd (S 1) w 2 ≤ S 1 1
    · repeat (first | (simp (disch := first | omega | exact it01) only [jn_it1, jn_it2, bo_some, bc_some, bx_inl, bx_inr, bn_some, bn_none, J_add, J_sub, J_mul, J_neg, J_0, J_lt, J_le, J_eq, J_ite, J01_0, J01_1, ite_not, ite_self, r_A0 hb, r_A1 hb, r_A2 hb, r_A3 hb, r_I4 hb, r_W4 hb, r_I5 hb, r_W5 hb, r_I6 hb, r_W6 hb, r_I7 hb, r_W7 hb, r_I8 hb, r_W8 hb, r_A9 hb, r_I10 hb, r_W10 hb, r_A11 hb, r_I12 hb, r_W12 hb, r_I13 hb, r_W13 hb, r_A14 hb, r_I15 hb, r_W15 hb, r_I16 hb, r_W16 hb, r_I17 hb, r_W17 hb, r_I18 hb, r_W18 hb, r_A19 hb, r_O hb, r_a1 hb, r_w1 hb, r_n1 hb, r_a2 hb, r_w2 hb, r_n2 hb, r_a3 hb, r_w3 hb, r_n3 hb, r_a4 hb, r_w4 hb, r_n4 hb, r_a5 hb, r_w5 hb, r_n5 hb, r_a6 hb, r_w6 hb, r_n6 hb, r_a7 hb, r_w7 hb, r_n7 hb, r_a8 hb, r_w8 hb, r_n8 hb, r_T13 hb, s_holdsT hb, s_goesT hb, s_place, s_isIn, s_isMetre, s_ofK hb, s_of0 hb, s_doc0 hb, thr, T13_1, T13_t, T13_2, up2_nj, up2_eq, up2_ne, Int.max_eq_right, ↓reduceIte, Int.reduceEq, Int.reduceNeg, Int.reduceLT, Int.reduceLE, Int.reduceAdd, Int.reduceSub, ne_eq, not_true_eq_false, not_false_eq_true, and_self, and_true, true_and, and_false, false_and, or_true, true_or, or_false, false_or, or_self, Int.reduceMul, c1, c2, s_floatsK hb hT]) | rw [jn_eq])
    · repeat (first | (simp (disch := first | omega | exact it01) only [jn_it1, jn_it2, bo_some, bc_some, bx_inl, bx_inr, bn_some, bn_none, J_add, J_sub, J_mul, J_neg, J_0, J_lt, J_le, J_eq, J_ite, J01_0, J01_1, ite_not, ite_self, r_A0 hb, r_A1 hb, r_A2 hb, r_A3 hb, r_I4 hb, r_W4 hb, r_I5 hb, r_W5 hb, r_I6 hb, r_W6 hb, r_I7 hb, r_W7 hb, r_I8 hb, r_W8 hb, r_A9 hb, r_I10 hb, r_W10 hb, r_A11 hb, r_I12 hb, r_W12 hb, r_I13 hb, r_W13 hb, r_A14 hb, r_I15 hb, r_W15 hb, r_I16 hb, r_W16 hb, r_I17 hb, r_W17 hb, r_I18 hb, r_W18 hb, r_A19 hb, r_O hb, r_a1 hb, r_w1 hb, r_n1 hb, r_a2 hb, r_w2 hb, r_n2 hb, r_a3 hb, r_w3 hb, r_n3 hb, r_a4 hb, r_w4 hb, r_n4 hb, r_a5 hb, r_w5 hb, r_n5 hb, r_a6 hb, r_w6 hb, r_n6 hb, r_a7 hb, r_w7 hb, r_n7 hb, r_a8 hb, r_w8 hb, r_n8 hb, r_T13 hb, s_holdsT hb, s_goesT hb, s_place, s_isIn, s_isMetre, s_ofK hb, s_of0 hb, s_doc0 hb, thr, T13_1, T13_t, T13_2, up2_nj, up2_eq, up2_ne, Int.max_eq_right, ↓reduceIte, Int.reduceEq, Int.reduceNeg, Int.reduceLT, Int.reduceLE, Int.reduceAdd, Int.reduceSub, ne_eq, not_true_eq_false, not_false_eq_true, and_self, and_true, true_and, and_false, false_and, or_true, true_or, or_false, false_or, or_self, Int.reduceMul, c1, c2, s_floatsK hb hT]) | rw [jn_eq])
theorem q_refusalReason (hb : bOK Θ 9 m h) (h1 : 0 ≤ S 0 8) (h2 : S 0 8 ≤ 4) : P_R_refusalReason Θ N (HR Θ m S h) m = if S 0 8 = 0 then some (J 0, HR Θ m (T13 S 1) h) else some (J (S 0 8), HR Θ m (T13 S 0) h) := by
  unfold P_R_refusalReason
  have e8 : T13 S 0 0 8 = S 0 8 := up2_nj (by omega)
  by_cases c : S 0 8 = 0
  · repeat (first | (simp (disch := first | omega | exact it01) only [jn_it1, jn_it2, bo_some, bc_some, bx_inl, bx_inr, bn_some, bn_none, J_add, J_sub, J_mul, J_neg, J_0, J_lt, J_le, J_eq, J_ite, J01_0, J01_1, ite_not, ite_self, r_A0 hb, r_A1 hb, r_A2 hb, r_A3 hb, r_I4 hb, r_W4 hb, r_I5 hb, r_W5 hb, r_I6 hb, r_W6 hb, r_I7 hb, r_W7 hb, r_I8 hb, r_W8 hb, r_A9 hb, r_I10 hb, r_W10 hb, r_A11 hb, r_I12 hb, r_W12 hb, r_I13 hb, r_W13 hb, r_A14 hb, r_I15 hb, r_W15 hb, r_I16 hb, r_W16 hb, r_I17 hb, r_W17 hb, r_I18 hb, r_W18 hb, r_A19 hb, r_O hb, r_a1 hb, r_w1 hb, r_n1 hb, r_a2 hb, r_w2 hb, r_n2 hb, r_a3 hb, r_w3 hb, r_n3 hb, r_a4 hb, r_w4 hb, r_n4 hb, r_a5 hb, r_w5 hb, r_n5 hb, r_a6 hb, r_w6 hb, r_n6 hb, r_a7 hb, r_w7 hb, r_n7 hb, r_a8 hb, r_w8 hb, r_n8 hb, r_T13 hb, s_holdsT hb, s_goesT hb, s_place, s_isIn, s_isMetre, s_ofK hb, s_of0 hb, s_doc0 hb, thr, T13_1, T13_t, T13_2, up2_nj, up2_eq, up2_ne, Int.max_eq_right, ↓reduceIte, Int.reduceEq, Int.reduceNeg, Int.reduceLT, Int.reduceLE, Int.reduceAdd, Int.reduceSub, ne_eq, not_true_eq_false, not_false_eq_true, and_self, and_true, true_and, and_false, false_and, or_true, true_or, or_false, false_or, or_self, Int.reduceMul, c]) | rw [jn_eq])
  · repeat (first | (simp (disch := first | omega | exact it01) only [jn_it1, jn_it2, bo_some, bc_some, bx_inl, bx_inr, bn_some, bn_none, J_add, J_sub, J_mul, J_neg, J_0, J_lt, J_le, J_eq, J_ite, J01_0, J01_1, ite_not, ite_self, r_A0 hb, r_A1 hb, r_A2 hb, r_A3 hb, r_I4 hb, r_W4 hb, r_I5 hb, r_W5 hb, r_I6 hb, r_W6 hb, r_I7 hb, r_W7 hb, r_I8 hb, r_W8 hb, r_A9 hb, r_I10 hb, r_W10 hb, r_A11 hb, r_I12 hb, r_W12 hb, r_I13 hb, r_W13 hb, r_A14 hb, r_I15 hb, r_W15 hb, r_I16 hb, r_W16 hb, r_I17 hb, r_W17 hb, r_I18 hb, r_W18 hb, r_A19 hb, r_O hb, r_a1 hb, r_w1 hb, r_n1 hb, r_a2 hb, r_w2 hb, r_n2 hb, r_a3 hb, r_w3 hb, r_n3 hb, r_a4 hb, r_w4 hb, r_n4 hb, r_a5 hb, r_w5 hb, r_n5 hb, r_a6 hb, r_w6 hb, r_n6 hb, r_a7 hb, r_w7 hb, r_n7 hb, r_a8 hb, r_w8 hb, r_n8 hb, r_T13 hb, s_holdsT hb, s_goesT hb, s_place, s_isIn, s_isMetre, s_ofK hb, s_of0 hb, s_doc0 hb, thr, T13_1, T13_t, T13_2, up2_nj, up2_eq, up2_ne, Int.max_eq_right, ↓reduceIte, Int.reduceEq, Int.reduceNeg, Int.reduceLT, Int.reduceLE, Int.reduceAdd, Int.reduceSub, ne_eq, not_true_eq_false, not_false_eq_true, and_self, and_true, true_and, and_false, false_and, or_true, true_or, or_false, false_or, or_self, Int.reduceMul, c, e8]) | rw [jn_eq])
theorem q_errorPosition (hb : bOK Θ 9 m h) (h1 : -1 ≤ S 0 6) (h2 : S 0 6 ≤ 100) : P_R_errorPosition Θ N (HR Θ m S h) m = if S 0 6 = -1 then some (J 0, HR Θ m (T13 S 1) h) else some (J (S 0 6), HR Θ m (T13 S 0) h) := by
  unfold P_R_errorPosition
  have e8 : T13 S 0 0 6 = S 0 6 := up2_nj (by omega)
  by_cases c : S 0 6 = -1
  · repeat (first | (simp (disch := first | omega | exact it01) only [jn_it1, jn_it2, bo_some, bc_some, bx_inl, bx_inr, bn_some, bn_none, J_add, J_sub, J_mul, J_neg, J_0, J_lt, J_le, J_eq, J_ite, J01_0, J01_1, ite_not, ite_self, r_A0 hb, r_A1 hb, r_A2 hb, r_A3 hb, r_I4 hb, r_W4 hb, r_I5 hb, r_W5 hb, r_I6 hb, r_W6 hb, r_I7 hb, r_W7 hb, r_I8 hb, r_W8 hb, r_A9 hb, r_I10 hb, r_W10 hb, r_A11 hb, r_I12 hb, r_W12 hb, r_I13 hb, r_W13 hb, r_A14 hb, r_I15 hb, r_W15 hb, r_I16 hb, r_W16 hb, r_I17 hb, r_W17 hb, r_I18 hb, r_W18 hb, r_A19 hb, r_O hb, r_a1 hb, r_w1 hb, r_n1 hb, r_a2 hb, r_w2 hb, r_n2 hb, r_a3 hb, r_w3 hb, r_n3 hb, r_a4 hb, r_w4 hb, r_n4 hb, r_a5 hb, r_w5 hb, r_n5 hb, r_a6 hb, r_w6 hb, r_n6 hb, r_a7 hb, r_w7 hb, r_n7 hb, r_a8 hb, r_w8 hb, r_n8 hb, r_T13 hb, s_holdsT hb, s_goesT hb, s_place, s_isIn, s_isMetre, s_ofK hb, s_of0 hb, s_doc0 hb, thr, T13_1, T13_t, T13_2, up2_nj, up2_eq, up2_ne, Int.max_eq_right, ↓reduceIte, Int.reduceEq, Int.reduceNeg, Int.reduceLT, Int.reduceLE, Int.reduceAdd, Int.reduceSub, ne_eq, not_true_eq_false, not_false_eq_true, and_self, and_true, true_and, and_false, false_and, or_true, true_or, or_false, false_or, or_self, Int.reduceMul, c]) | rw [jn_eq])
  · repeat (first | (simp (disch := first | omega | exact it01) only [jn_it1, jn_it2, bo_some, bc_some, bx_inl, bx_inr, bn_some, bn_none, J_add, J_sub, J_mul, J_neg, J_0, J_lt, J_le, J_eq, J_ite, J01_0, J01_1, ite_not, ite_self, r_A0 hb, r_A1 hb, r_A2 hb, r_A3 hb, r_I4 hb, r_W4 hb, r_I5 hb, r_W5 hb, r_I6 hb, r_W6 hb, r_I7 hb, r_W7 hb, r_I8 hb, r_W8 hb, r_A9 hb, r_I10 hb, r_W10 hb, r_A11 hb, r_I12 hb, r_W12 hb, r_I13 hb, r_W13 hb, r_A14 hb, r_I15 hb, r_W15 hb, r_I16 hb, r_W16 hb, r_I17 hb, r_W17 hb, r_I18 hb, r_W18 hb, r_A19 hb, r_O hb, r_a1 hb, r_w1 hb, r_n1 hb, r_a2 hb, r_w2 hb, r_n2 hb, r_a3 hb, r_w3 hb, r_n3 hb, r_a4 hb, r_w4 hb, r_n4 hb, r_a5 hb, r_w5 hb, r_n5 hb, r_a6 hb, r_w6 hb, r_n6 hb, r_a7 hb, r_w7 hb, r_n7 hb, r_a8 hb, r_w8 hb, r_n8 hb, r_T13 hb, s_holdsT hb, s_goesT hb, s_place, s_isIn, s_isMetre, s_ofK hb, s_of0 hb, s_doc0 hb, thr, T13_1, T13_t, T13_2, up2_nj, up2_eq, up2_ne, Int.max_eq_right, ↓reduceIte, Int.reduceEq, Int.reduceNeg, Int.reduceLT, Int.reduceLE, Int.reduceAdd, Int.reduceSub, ne_eq, not_true_eq_false, not_false_eq_true, and_self, and_true, true_and, and_false, false_and, or_true, true_or, or_false, false_or, or_self, Int.reduceMul, c, e8]) | rw [jn_eq])
theorem q_failedCommand (hb : bOK Θ 9 m h) (h1 : -1 ≤ S 0 7) (h2 : S 0 7 ≤ 100) : P_R_failedCommand Θ N (HR Θ m S h) m = if S 0 7 = -1 then some (J 0, HR Θ m (T13 S 1) h) else some (J (S 0 7), HR Θ m (T13 S 0) h) := by
  unfold P_R_failedCommand
  have e8 : T13 S 0 0 7 = S 0 7 := up2_nj (by omega)
  by_cases c : S 0 7 = -1
  · repeat (first | (simp (disch := first | omega | exact it01) only [jn_it1, jn_it2, bo_some, bc_some, bx_inl, bx_inr, bn_some, bn_none, J_add, J_sub, J_mul, J_neg, J_0, J_lt, J_le, J_eq, J_ite, J01_0, J01_1, ite_not, ite_self, r_A0 hb, r_A1 hb, r_A2 hb, r_A3 hb, r_I4 hb, r_W4 hb, r_I5 hb, r_W5 hb, r_I6 hb, r_W6 hb, r_I7 hb, r_W7 hb, r_I8 hb, r_W8 hb, r_A9 hb, r_I10 hb, r_W10 hb, r_A11 hb, r_I12 hb, r_W12 hb, r_I13 hb, r_W13 hb, r_A14 hb, r_I15 hb, r_W15 hb, r_I16 hb, r_W16 hb, r_I17 hb, r_W17 hb, r_I18 hb, r_W18 hb, r_A19 hb, r_O hb, r_a1 hb, r_w1 hb, r_n1 hb, r_a2 hb, r_w2 hb, r_n2 hb, r_a3 hb, r_w3 hb, r_n3 hb, r_a4 hb, r_w4 hb, r_n4 hb, r_a5 hb, r_w5 hb, r_n5 hb, r_a6 hb, r_w6 hb, r_n6 hb, r_a7 hb, r_w7 hb, r_n7 hb, r_a8 hb, r_w8 hb, r_n8 hb, r_T13 hb, s_holdsT hb, s_goesT hb, s_place, s_isIn, s_isMetre, s_ofK hb, s_of0 hb, s_doc0 hb, thr, T13_1, T13_t, T13_2, up2_nj, up2_eq, up2_ne, Int.max_eq_right, ↓reduceIte, Int.reduceEq, Int.reduceNeg, Int.reduceLT, Int.reduceLE, Int.reduceAdd, Int.reduceSub, ne_eq, not_true_eq_false, not_false_eq_true, and_self, and_true, true_and, and_false, false_and, or_true, true_or, or_false, false_or, or_self, Int.reduceMul, c]) | rw [jn_eq])
  · repeat (first | (simp (disch := first | omega | exact it01) only [jn_it1, jn_it2, bo_some, bc_some, bx_inl, bx_inr, bn_some, bn_none, J_add, J_sub, J_mul, J_neg, J_0, J_lt, J_le, J_eq, J_ite, J01_0, J01_1, ite_not, ite_self, r_A0 hb, r_A1 hb, r_A2 hb, r_A3 hb, r_I4 hb, r_W4 hb, r_I5 hb, r_W5 hb, r_I6 hb, r_W6 hb, r_I7 hb, r_W7 hb, r_I8 hb, r_W8 hb, r_A9 hb, r_I10 hb, r_W10 hb, r_A11 hb, r_I12 hb, r_W12 hb, r_I13 hb, r_W13 hb, r_A14 hb, r_I15 hb, r_W15 hb, r_I16 hb, r_W16 hb, r_I17 hb, r_W17 hb, r_I18 hb, r_W18 hb, r_A19 hb, r_O hb, r_a1 hb, r_w1 hb, r_n1 hb, r_a2 hb, r_w2 hb, r_n2 hb, r_a3 hb, r_w3 hb, r_n3 hb, r_a4 hb, r_w4 hb, r_n4 hb, r_a5 hb, r_w5 hb, r_n5 hb, r_a6 hb, r_w6 hb, r_n6 hb, r_a7 hb, r_w7 hb, r_n7 hb, r_a8 hb, r_w8 hb, r_n8 hb, r_T13 hb, s_holdsT hb, s_goesT hb, s_place, s_isIn, s_isMetre, s_ofK hb, s_of0 hb, s_doc0 hb, thr, T13_1, T13_t, T13_2, up2_nj, up2_eq, up2_ne, Int.max_eq_right, ↓reduceIte, Int.reduceEq, Int.reduceNeg, Int.reduceLT, Int.reduceLE, Int.reduceAdd, Int.reduceSub, ne_eq, not_true_eq_false, not_false_eq_true, and_self, and_true, true_and, and_false, false_and, or_true, true_or, or_false, false_or, or_self, Int.reduceMul, c, e8]) | rw [jn_eq])
theorem q_sea (hb : bOK Θ 9 m h) {t : Int} (i1 : -2147483648 ≤ t) (i2 : t < 2147483648) : P_R_sea Θ N (HR Θ m S h) m (J t) = if 0 ≤ t ∧ t ≤ 9999 then some (J (sea t), HR Θ m (T13 S 0) h) else some (J 0, HR Θ m (T13 S 1) h) := by
  unfold P_R_sea
  by_cases c : 0 ≤ t ∧ t ≤ 9999
  · repeat (first | (simp (disch := first | omega | exact it01) only [jn_it1, jn_it2, bo_some, bc_some, bx_inl, bx_inr, bn_some, bn_none, J_add, J_sub, J_mul, J_neg, J_0, J_lt, J_le, J_eq, J_ite, J01_0, J01_1, ite_not, ite_self, r_A0 hb, r_A1 hb, r_A2 hb, r_A3 hb, r_I4 hb, r_W4 hb, r_I5 hb, r_W5 hb, r_I6 hb, r_W6 hb, r_I7 hb, r_W7 hb, r_I8 hb, r_W8 hb, r_A9 hb, r_I10 hb, r_W10 hb, r_A11 hb, r_I12 hb, r_W12 hb, r_I13 hb, r_W13 hb, r_A14 hb, r_I15 hb, r_W15 hb, r_I16 hb, r_W16 hb, r_I17 hb, r_W17 hb, r_I18 hb, r_W18 hb, r_A19 hb, r_O hb, r_a1 hb, r_w1 hb, r_n1 hb, r_a2 hb, r_w2 hb, r_n2 hb, r_a3 hb, r_w3 hb, r_n3 hb, r_a4 hb, r_w4 hb, r_n4 hb, r_a5 hb, r_w5 hb, r_n5 hb, r_a6 hb, r_w6 hb, r_n6 hb, r_a7 hb, r_w7 hb, r_n7 hb, r_a8 hb, r_w8 hb, r_n8 hb, r_T13 hb, s_holdsT hb, s_goesT hb, s_place, s_isIn, s_isMetre, s_ofK hb, s_of0 hb, s_doc0 hb, thr, T13_1, T13_t, T13_2, up2_nj, up2_eq, up2_ne, Int.max_eq_right, ↓reduceIte, Int.reduceEq, Int.reduceNeg, Int.reduceLT, Int.reduceLE, Int.reduceAdd, Int.reduceSub, ne_eq, not_true_eq_false, not_false_eq_true, and_self, and_true, true_and, and_false, false_and, or_true, true_or, or_false, false_or, or_self, Int.reduceMul, c, s_seaAt]) | rw [jn_eq])
  · repeat (first | (simp (disch := first | omega | exact it01) only [jn_it1, jn_it2, bo_some, bc_some, bx_inl, bx_inr, bn_some, bn_none, J_add, J_sub, J_mul, J_neg, J_0, J_lt, J_le, J_eq, J_ite, J01_0, J01_1, ite_not, ite_self, r_A0 hb, r_A1 hb, r_A2 hb, r_A3 hb, r_I4 hb, r_W4 hb, r_I5 hb, r_W5 hb, r_I6 hb, r_W6 hb, r_I7 hb, r_W7 hb, r_I8 hb, r_W8 hb, r_A9 hb, r_I10 hb, r_W10 hb, r_A11 hb, r_I12 hb, r_W12 hb, r_I13 hb, r_W13 hb, r_A14 hb, r_I15 hb, r_W15 hb, r_I16 hb, r_W16 hb, r_I17 hb, r_W17 hb, r_I18 hb, r_W18 hb, r_A19 hb, r_O hb, r_a1 hb, r_w1 hb, r_n1 hb, r_a2 hb, r_w2 hb, r_n2 hb, r_a3 hb, r_w3 hb, r_n3 hb, r_a4 hb, r_w4 hb, r_n4 hb, r_a5 hb, r_w5 hb, r_n5 hb, r_a6 hb, r_w6 hb, r_n6 hb, r_a7 hb, r_w7 hb, r_n7 hb, r_a8 hb, r_w8 hb, r_n8 hb, r_T13 hb, s_holdsT hb, s_goesT hb, s_place, s_isIn, s_isMetre, s_ofK hb, s_of0 hb, s_doc0 hb, thr, T13_1, T13_t, T13_2, up2_nj, up2_eq, up2_ne, Int.max_eq_right, ↓reduceIte, Int.reduceEq, Int.reduceNeg, Int.reduceLT, Int.reduceLE, Int.reduceAdd, Int.reduceSub, ne_eq, not_true_eq_false, not_false_eq_true, and_self, and_true, true_and, and_false, false_and, or_true, true_or, or_false, false_or, or_self, Int.reduceMul, c]) | rw [jn_eq])
theorem q_hasBlock (hb : bOK Θ 9 m h) (hV : OKV (S 1)) {p : Int} (i1 : -2147483648 ≤ p) (i2 : p < 2147483648) : P_R_hasBlock Θ N (HR Θ m S h) m (J p) = if 0 ≤ p ∧ p ≤ 59 then some (J (if S 1 (80 + p) = 1 then 1 else 0), HR Θ m (T13 S 0) h) else some (J 0, HR Θ m (T13 S 1) h) := by
  unfold P_R_hasBlock
  have hT : OKV (T13 S 0 1) := by rw [T13_1]; exact hV
  by_cases c : 0 ≤ p ∧ p ≤ 59
  · by_cases c2 : S 1 (80 + p) = 1
    · repeat (first | (simp (disch := first | omega | exact it01) only [jn_it1, jn_it2, bo_some, bc_some, bx_inl, bx_inr, bn_some, bn_none, J_add, J_sub, J_mul, J_neg, J_0, J_lt, J_le, J_eq, J_ite, J01_0, J01_1, ite_not, ite_self, r_A0 hb, r_A1 hb, r_A2 hb, r_A3 hb, r_I4 hb, r_W4 hb, r_I5 hb, r_W5 hb, r_I6 hb, r_W6 hb, r_I7 hb, r_W7 hb, r_I8 hb, r_W8 hb, r_A9 hb, r_I10 hb, r_W10 hb, r_A11 hb, r_I12 hb, r_W12 hb, r_I13 hb, r_W13 hb, r_A14 hb, r_I15 hb, r_W15 hb, r_I16 hb, r_W16 hb, r_I17 hb, r_W17 hb, r_I18 hb, r_W18 hb, r_A19 hb, r_O hb, r_a1 hb, r_w1 hb, r_n1 hb, r_a2 hb, r_w2 hb, r_n2 hb, r_a3 hb, r_w3 hb, r_n3 hb, r_a4 hb, r_w4 hb, r_n4 hb, r_a5 hb, r_w5 hb, r_n5 hb, r_a6 hb, r_w6 hb, r_n6 hb, r_a7 hb, r_w7 hb, r_n7 hb, r_a8 hb, r_w8 hb, r_n8 hb, r_T13 hb, s_holdsT hb, s_goesT hb, s_place, s_isIn, s_isMetre, s_ofK hb, s_of0 hb, s_doc0 hb, thr, T13_1, T13_t, T13_2, up2_nj, up2_eq, up2_ne, Int.max_eq_right, ↓reduceIte, Int.reduceEq, Int.reduceNeg, Int.reduceLT, Int.reduceLE, Int.reduceAdd, Int.reduceSub, ne_eq, not_true_eq_false, not_false_eq_true, and_self, and_true, true_and, and_false, false_and, or_true, true_or, or_false, false_or, or_self, Int.reduceMul, c, c2, s_isBlock hb hT]) | rw [jn_eq])
    · repeat (first | (simp (disch := first | omega | exact it01) only [jn_it1, jn_it2, bo_some, bc_some, bx_inl, bx_inr, bn_some, bn_none, J_add, J_sub, J_mul, J_neg, J_0, J_lt, J_le, J_eq, J_ite, J01_0, J01_1, ite_not, ite_self, r_A0 hb, r_A1 hb, r_A2 hb, r_A3 hb, r_I4 hb, r_W4 hb, r_I5 hb, r_W5 hb, r_I6 hb, r_W6 hb, r_I7 hb, r_W7 hb, r_I8 hb, r_W8 hb, r_A9 hb, r_I10 hb, r_W10 hb, r_A11 hb, r_I12 hb, r_W12 hb, r_I13 hb, r_W13 hb, r_A14 hb, r_I15 hb, r_W15 hb, r_I16 hb, r_W16 hb, r_I17 hb, r_W17 hb, r_I18 hb, r_W18 hb, r_A19 hb, r_O hb, r_a1 hb, r_w1 hb, r_n1 hb, r_a2 hb, r_w2 hb, r_n2 hb, r_a3 hb, r_w3 hb, r_n3 hb, r_a4 hb, r_w4 hb, r_n4 hb, r_a5 hb, r_w5 hb, r_n5 hb, r_a6 hb, r_w6 hb, r_n6 hb, r_a7 hb, r_w7 hb, r_n7 hb, r_a8 hb, r_w8 hb, r_n8 hb, r_T13 hb, s_holdsT hb, s_goesT hb, s_place, s_isIn, s_isMetre, s_ofK hb, s_of0 hb, s_doc0 hb, thr, T13_1, T13_t, T13_2, up2_nj, up2_eq, up2_ne, Int.max_eq_right, ↓reduceIte, Int.reduceEq, Int.reduceNeg, Int.reduceLT, Int.reduceLE, Int.reduceAdd, Int.reduceSub, ne_eq, not_true_eq_false, not_false_eq_true, and_self, and_true, true_and, and_false, false_and, or_true, true_or, or_false, false_or, or_self, Int.reduceMul, c, c2, s_isBlock hb hT]) | rw [jn_eq])
  · repeat (first | (simp (disch := first | omega | exact it01) only [jn_it1, jn_it2, bo_some, bc_some, bx_inl, bx_inr, bn_some, bn_none, J_add, J_sub, J_mul, J_neg, J_0, J_lt, J_le, J_eq, J_ite, J01_0, J01_1, ite_not, ite_self, r_A0 hb, r_A1 hb, r_A2 hb, r_A3 hb, r_I4 hb, r_W4 hb, r_I5 hb, r_W5 hb, r_I6 hb, r_W6 hb, r_I7 hb, r_W7 hb, r_I8 hb, r_W8 hb, r_A9 hb, r_I10 hb, r_W10 hb, r_A11 hb, r_I12 hb, r_W12 hb, r_I13 hb, r_W13 hb, r_A14 hb, r_I15 hb, r_W15 hb, r_I16 hb, r_W16 hb, r_I17 hb, r_W17 hb, r_I18 hb, r_W18 hb, r_A19 hb, r_O hb, r_a1 hb, r_w1 hb, r_n1 hb, r_a2 hb, r_w2 hb, r_n2 hb, r_a3 hb, r_w3 hb, r_n3 hb, r_a4 hb, r_w4 hb, r_n4 hb, r_a5 hb, r_w5 hb, r_n5 hb, r_a6 hb, r_w6 hb, r_n6 hb, r_a7 hb, r_w7 hb, r_n7 hb, r_a8 hb, r_w8 hb, r_n8 hb, r_T13 hb, s_holdsT hb, s_goesT hb, s_place, s_isIn, s_isMetre, s_ofK hb, s_of0 hb, s_doc0 hb, thr, T13_1, T13_t, T13_2, up2_nj, up2_eq, up2_ne, Int.max_eq_right, ↓reduceIte, Int.reduceEq, Int.reduceNeg, Int.reduceLT, Int.reduceLE, Int.reduceAdd, Int.reduceSub, ne_eq, not_true_eq_false, not_false_eq_true, and_self, and_true, true_and, and_false, false_and, or_true, true_or, or_false, false_or, or_self, Int.reduceMul, c]) | rw [jn_eq])
theorem q_asksBeneath (hN : 2000 ≤ N) (hb : bOK Θ 9 m h) (hV : OKV (S 1)) {id : Int} (i1 : -2147483648 ≤ id) (i2 : id < 2147483648) : P_R_asksBeneath Θ N (HR Θ m S h) m (J id) = if fnd (S 1) id (mny (S 1)) = -1 then some (J 0, HR Θ m (T13 S 1) h) else some (J (if fd (S 1) (fnd (S 1) id (mny (S 1))) 4 ≠ -1 then bnt (S 1) (fnd (S 1) id (mny (S 1))) 60 else 0), HR Θ m (T13 S 0) h) := by
  unfold P_R_asksBeneath
  have hw := fnd_rng (S := S) hV (id := id)
  rw [r_O hb, s_find hN hb hV i1 i2, bc_some]
  generalize fnd (S 1) id (mny (S 1)) = w at hw ⊢
  have hm := hV.2
  have hT : OKV (T13 S 0 1) := by rw [T13_1]; exact hV
  by_cases c1 : w = -1
  · subst c1
    repeat (first | (simp (disch := first | omega | exact it01) only [jn_it1, jn_it2, bo_some, bc_some, bx_inl, bx_inr, bn_some, bn_none, J_add, J_sub, J_mul, J_neg, J_0, J_lt, J_le, J_eq, J_ite, J01_0, J01_1, ite_not, ite_self, r_A0 hb, r_A1 hb, r_A2 hb, r_A3 hb, r_I4 hb, r_W4 hb, r_I5 hb, r_W5 hb, r_I6 hb, r_W6 hb, r_I7 hb, r_W7 hb, r_I8 hb, r_W8 hb, r_A9 hb, r_I10 hb, r_W10 hb, r_A11 hb, r_I12 hb, r_W12 hb, r_I13 hb, r_W13 hb, r_A14 hb, r_I15 hb, r_W15 hb, r_I16 hb, r_W16 hb, r_I17 hb, r_W17 hb, r_I18 hb, r_W18 hb, r_A19 hb, r_O hb, r_a1 hb, r_w1 hb, r_n1 hb, r_a2 hb, r_w2 hb, r_n2 hb, r_a3 hb, r_w3 hb, r_n3 hb, r_a4 hb, r_w4 hb, r_n4 hb, r_a5 hb, r_w5 hb, r_n5 hb, r_a6 hb, r_w6 hb, r_n6 hb, r_a7 hb, r_w7 hb, r_n7 hb, r_a8 hb, r_w8 hb, r_n8 hb, r_T13 hb, s_holdsT hb, s_goesT hb, s_place, s_isIn, s_isMetre, s_ofK hb, s_of0 hb, s_doc0 hb, thr, T13_1, T13_t, T13_2, up2_nj, up2_eq, up2_ne, Int.max_eq_right, ↓reduceIte, Int.reduceEq, Int.reduceNeg, Int.reduceLT, Int.reduceLE, Int.reduceAdd, Int.reduceSub, ne_eq, not_true_eq_false, not_false_eq_true, and_self, and_true, true_and, and_false, false_and, or_true, true_or, or_false, false_or, or_self, Int.reduceMul]) | rw [jn_eq])
  · repeat (first | (simp (disch := first | omega | exact it01) only [jn_it1, jn_it2, bo_some, bc_some, bx_inl, bx_inr, bn_some, bn_none, J_add, J_sub, J_mul, J_neg, J_0, J_lt, J_le, J_eq, J_ite, J01_0, J01_1, ite_not, ite_self, r_A0 hb, r_A1 hb, r_A2 hb, r_A3 hb, r_I4 hb, r_W4 hb, r_I5 hb, r_W5 hb, r_I6 hb, r_W6 hb, r_I7 hb, r_W7 hb, r_I8 hb, r_W8 hb, r_A9 hb, r_I10 hb, r_W10 hb, r_A11 hb, r_I12 hb, r_W12 hb, r_I13 hb, r_W13 hb, r_A14 hb, r_I15 hb, r_W15 hb, r_I16 hb, r_W16 hb, r_I17 hb, r_W17 hb, r_I18 hb, r_W18 hb, r_A19 hb, r_O hb, r_a1 hb, r_w1 hb, r_n1 hb, r_a2 hb, r_w2 hb, r_n2 hb, r_a3 hb, r_w3 hb, r_n3 hb, r_a4 hb, r_w4 hb, r_n4 hb, r_a5 hb, r_w5 hb, r_n5 hb, r_a6 hb, r_w6 hb, r_n6 hb, r_a7 hb, r_w7 hb, r_n7 hb, r_a8 hb, r_w8 hb, r_n8 hb, r_T13 hb, s_holdsT hb, s_goesT hb, s_place, s_isIn, s_isMetre, s_ofK hb, s_of0 hb, s_doc0 hb, thr, T13_1, T13_t, T13_2, up2_nj, up2_eq, up2_ne, Int.max_eq_right, ↓reduceIte, Int.reduceEq, Int.reduceNeg, Int.reduceLT, Int.reduceLE, Int.reduceAdd, Int.reduceSub, ne_eq, not_true_eq_false, not_false_eq_true, and_self, and_true, true_and, and_false, false_and, or_true, true_or, or_false, false_or, or_self, Int.reduceMul, c1, s_beneath hN hb hT]) | rw [jn_eq])
theorem q_shipAtPosition (hN : 2000 ≤ N) (hb : bOK Θ 9 m h) (hV : OKV (S 1)) {p : Int} (i1 : -2147483648 ≤ p) (i2 : p < 2147483648) : P_R_shipAtPosition Θ N (HR Θ m S h) m (J p) = if ¬ (0 ≤ p ∧ p ≤ 59) then some (J 0, HR Θ m (T13 S 1) h) else if at' (S 1) p = -1 then some (J 0, HR Θ m (T13 S 2) h) else some (J (fd (S 1) (at' (S 1) p) 0), HR Θ m (T13 S 0) h) := by
  unfold P_R_shipAtPosition
  have hw := at_le (S := S) hV (p := p)
  rw [r_O hb, s_at hN hb hV i1 i2, bc_some]
  generalize at' (S 1) p = w at hw ⊢
  have hm := hV.2
  by_cases c1 : w = -1
  · by_cases c : 0 ≤ p ∧ p ≤ 59
    · repeat (first | (simp (disch := first | omega | exact it01) only [jn_it1, jn_it2, bo_some, bc_some, bx_inl, bx_inr, bn_some, bn_none, J_add, J_sub, J_mul, J_neg, J_0, J_lt, J_le, J_eq, J_ite, J01_0, J01_1, ite_not, ite_self, r_A0 hb, r_A1 hb, r_A2 hb, r_A3 hb, r_I4 hb, r_W4 hb, r_I5 hb, r_W5 hb, r_I6 hb, r_W6 hb, r_I7 hb, r_W7 hb, r_I8 hb, r_W8 hb, r_A9 hb, r_I10 hb, r_W10 hb, r_A11 hb, r_I12 hb, r_W12 hb, r_I13 hb, r_W13 hb, r_A14 hb, r_I15 hb, r_W15 hb, r_I16 hb, r_W16 hb, r_I17 hb, r_W17 hb, r_I18 hb, r_W18 hb, r_A19 hb, r_O hb, r_a1 hb, r_w1 hb, r_n1 hb, r_a2 hb, r_w2 hb, r_n2 hb, r_a3 hb, r_w3 hb, r_n3 hb, r_a4 hb, r_w4 hb, r_n4 hb, r_a5 hb, r_w5 hb, r_n5 hb, r_a6 hb, r_w6 hb, r_n6 hb, r_a7 hb, r_w7 hb, r_n7 hb, r_a8 hb, r_w8 hb, r_n8 hb, r_T13 hb, s_holdsT hb, s_goesT hb, s_place, s_isIn, s_isMetre, s_ofK hb, s_of0 hb, s_doc0 hb, thr, T13_1, T13_t, T13_2, up2_nj, up2_eq, up2_ne, Int.max_eq_right, ↓reduceIte, Int.reduceEq, Int.reduceNeg, Int.reduceLT, Int.reduceLE, Int.reduceAdd, Int.reduceSub, ne_eq, not_true_eq_false, not_false_eq_true, and_self, and_true, true_and, and_false, false_and, or_true, true_or, or_false, false_or, or_self, Int.reduceMul, c, c1]) | rw [jn_eq])
    · repeat (first | (simp (disch := first | omega | exact it01) only [jn_it1, jn_it2, bo_some, bc_some, bx_inl, bx_inr, bn_some, bn_none, J_add, J_sub, J_mul, J_neg, J_0, J_lt, J_le, J_eq, J_ite, J01_0, J01_1, ite_not, ite_self, r_A0 hb, r_A1 hb, r_A2 hb, r_A3 hb, r_I4 hb, r_W4 hb, r_I5 hb, r_W5 hb, r_I6 hb, r_W6 hb, r_I7 hb, r_W7 hb, r_I8 hb, r_W8 hb, r_A9 hb, r_I10 hb, r_W10 hb, r_A11 hb, r_I12 hb, r_W12 hb, r_I13 hb, r_W13 hb, r_A14 hb, r_I15 hb, r_W15 hb, r_I16 hb, r_W16 hb, r_I17 hb, r_W17 hb, r_I18 hb, r_W18 hb, r_A19 hb, r_O hb, r_a1 hb, r_w1 hb, r_n1 hb, r_a2 hb, r_w2 hb, r_n2 hb, r_a3 hb, r_w3 hb, r_n3 hb, r_a4 hb, r_w4 hb, r_n4 hb, r_a5 hb, r_w5 hb, r_n5 hb, r_a6 hb, r_w6 hb, r_n6 hb, r_a7 hb, r_w7 hb, r_n7 hb, r_a8 hb, r_w8 hb, r_n8 hb, r_T13 hb, s_holdsT hb, s_goesT hb, s_place, s_isIn, s_isMetre, s_ofK hb, s_of0 hb, s_doc0 hb, thr, T13_1, T13_t, T13_2, up2_nj, up2_eq, up2_ne, Int.max_eq_right, ↓reduceIte, Int.reduceEq, Int.reduceNeg, Int.reduceLT, Int.reduceLE, Int.reduceAdd, Int.reduceSub, ne_eq, not_true_eq_false, not_false_eq_true, and_self, and_true, true_and, and_false, false_and, or_true, true_or, or_false, false_or, or_self, Int.reduceMul, c, c1]) | rw [jn_eq])
  · by_cases c : 0 ≤ p ∧ p ≤ 59
    · repeat (first | (simp (disch := first | omega | exact it01) only [jn_it1, jn_it2, bo_some, bc_some, bx_inl, bx_inr, bn_some, bn_none, J_add, J_sub, J_mul, J_neg, J_0, J_lt, J_le, J_eq, J_ite, J01_0, J01_1, ite_not, ite_self, r_A0 hb, r_A1 hb, r_A2 hb, r_A3 hb, r_I4 hb, r_W4 hb, r_I5 hb, r_W5 hb, r_I6 hb, r_W6 hb, r_I7 hb, r_W7 hb, r_I8 hb, r_W8 hb, r_A9 hb, r_I10 hb, r_W10 hb, r_A11 hb, r_I12 hb, r_W12 hb, r_I13 hb, r_W13 hb, r_A14 hb, r_I15 hb, r_W15 hb, r_I16 hb, r_W16 hb, r_I17 hb, r_W17 hb, r_I18 hb, r_W18 hb, r_A19 hb, r_O hb, r_a1 hb, r_w1 hb, r_n1 hb, r_a2 hb, r_w2 hb, r_n2 hb, r_a3 hb, r_w3 hb, r_n3 hb, r_a4 hb, r_w4 hb, r_n4 hb, r_a5 hb, r_w5 hb, r_n5 hb, r_a6 hb, r_w6 hb, r_n6 hb, r_a7 hb, r_w7 hb, r_n7 hb, r_a8 hb, r_w8 hb, r_n8 hb, r_T13 hb, s_holdsT hb, s_goesT hb, s_place, s_isIn, s_isMetre, s_ofK hb, s_of0 hb, s_doc0 hb, thr, T13_1, T13_t, T13_2, up2_nj, up2_eq, up2_ne, Int.max_eq_right, ↓reduceIte, Int.reduceEq, Int.reduceNeg, Int.reduceLT, Int.reduceLE, Int.reduceAdd, Int.reduceSub, ne_eq, not_true_eq_false, not_false_eq_true, and_self, and_true, true_and, and_false, false_and, or_true, true_or, or_false, false_or, or_self, Int.reduceMul, c, c1]) | rw [jn_eq])
    · repeat (first | (simp (disch := first | omega | exact it01) only [jn_it1, jn_it2, bo_some, bc_some, bx_inl, bx_inr, bn_some, bn_none, J_add, J_sub, J_mul, J_neg, J_0, J_lt, J_le, J_eq, J_ite, J01_0, J01_1, ite_not, ite_self, r_A0 hb, r_A1 hb, r_A2 hb, r_A3 hb, r_I4 hb, r_W4 hb, r_I5 hb, r_W5 hb, r_I6 hb, r_W6 hb, r_I7 hb, r_W7 hb, r_I8 hb, r_W8 hb, r_A9 hb, r_I10 hb, r_W10 hb, r_A11 hb, r_I12 hb, r_W12 hb, r_I13 hb, r_W13 hb, r_A14 hb, r_I15 hb, r_W15 hb, r_I16 hb, r_W16 hb, r_I17 hb, r_W17 hb, r_I18 hb, r_W18 hb, r_A19 hb, r_O hb, r_a1 hb, r_w1 hb, r_n1 hb, r_a2 hb, r_w2 hb, r_n2 hb, r_a3 hb, r_w3 hb, r_n3 hb, r_a4 hb, r_w4 hb, r_n4 hb, r_a5 hb, r_w5 hb, r_n5 hb, r_a6 hb, r_w6 hb, r_n6 hb, r_a7 hb, r_w7 hb, r_n7 hb, r_a8 hb, r_w8 hb, r_n8 hb, r_T13 hb, s_holdsT hb, s_goesT hb, s_place, s_isIn, s_isMetre, s_ofK hb, s_of0 hb, s_doc0 hb, thr, T13_1, T13_t, T13_2, up2_nj, up2_eq, up2_ne, Int.max_eq_right, ↓reduceIte, Int.reduceEq, Int.reduceNeg, Int.reduceLT, Int.reduceLE, Int.reduceAdd, Int.reduceSub, ne_eq, not_true_eq_false, not_false_eq_true, and_self, and_true, true_and, and_false, false_and, or_true, true_or, or_false, false_or, or_self, Int.reduceMul, c, c1]) | rw [jn_eq])
/-! gaps -/
/-- the first place from a on, among n, where l metres are free; -1 if none -/
def gpf (V : Int → Int) (l : Int) : Nat → Int → Int
  | 0, _ => -1
  | n + 1, a => if 60 < a + l then -1 else if fre V a l.toNat = 1 then a else gpf V l n (a + 1)
theorem s_gap_L (hN : 2000 ≤ N) (hb : bOK Θ 9 m h) (hV : OKV (S 1)) {l : Int} (i1 : 1 ≤ l) (i2 : l ≤ 60) {K : mH → Int32 → Option (Int32 × mH)} : ∀ (r : Nat) (a : Int) (n : Nat), 0 ≤ a → a + l + r = 61 → r + 1 < n → P_R_gap_13 Θ N K m (J l) (J 1) n (HR Θ m S h) (J (-1)) (J a) = K (HR Θ m S h) (J (gpf (S 1) l (r + 1) a)) := by
  intro r
  induction r with
  | zero =>
    intro a n ha hr hn
    obtain ⟨n, rfl⟩ : ∃ n', n = n' + 1 := ⟨n - 1, by omega⟩
    rw [E_R_gap_13, B_R_gap_13, if_neg (by rw [J_0, J_eq] <;> omega), J_add, if_pos (by rw [J_lt] <;> omega), gpf, if_pos (by omega)]
  | succ r ih =>
    intro a n ha hr hn
    obtain ⟨n, rfl⟩ : ∃ n', n = n' + 1 := ⟨n - 1, by omega⟩
    rw [E_R_gap_13, B_R_gap_13, if_neg (by rw [J_0, J_eq] <;> omega), J_add, if_neg (by rw [J_lt] <;> omega), if_pos rfl, r_O hb, s_isFree hN hb hV (by omega) (by omega) (by omega) (by omega), bc_some, gpf, if_neg (by omega)]
    rcases fre_01 (V := S 1) (a := a) l.toNat with c | c
    · rw [c, jn_eq, if_pos (by rfl), if_neg (by omega), J_add]
      exact ih (a + 1) n (by omega) (by omega) (by omega)
    · rw [c, jn_eq, if_neg (by rw [J_0, J_eq] <;> omega), if_pos rfl, J_add]
      obtain ⟨n, rfl⟩ : ∃ n', n = n' + 1 := ⟨n - 1, by omega⟩
      show P_R_gap_13 Θ N K m (J l) (J 1) (n + 1) (HR Θ m S h) (J a) (J (a + 1)) = _
      rw [E_R_gap_13, B_R_gap_13, if_neg (by rw [J_0, J_eq] <;> omega)]
      split
      · rfl
      · rw [if_neg (by rw [J_eq] <;> omega)]
theorem q_gap (hN : 2000 ≤ N) (hb : bOK Θ 9 m h) (hV : OKV (S 1)) {l : Int} (i1 : -2147483648 ≤ l) (i2 : l < 2147483648) : P_R_gap Θ N (HR Θ m S h) m (J l) = if ¬ (1 ≤ l ∧ l ≤ 60) then some (J 0, HR Θ m (T13 S 1) h) else if gpf (S 1) l (62 - l).toNat 0 = -1 then some (J 0, HR Θ m (T13 S 2) h) else some (J (gpf (S 1) l (62 - l).toNat 0), HR Θ m (T13 S 0) h) := by
  unfold P_R_gap
  rw [s_isIn i1 i2 (by omega) (by omega) (by omega) (by omega), bc_some]
  by_cases c : 1 ≤ l ∧ l ≤ 60
  · rw [if_pos c, s_gap_L hN hb hV c.1 c.2 (61 - l).toNat 0 N (by omega) (by omega) (by omega), show (61 - l).toNat + 1 = (62 - l).toNat by omega]
    have hg : ∀ (r : Nat) (a : Int), 0 ≤ a → -1 ≤ gpf (S 1) l r a ∧ gpf (S 1) l r a ≤ 60 := by
      intro r
      induction r with
      | zero => intro a ha; rw [gpf]; omega
      | succ r ih =>
        intro a ha
        rw [gpf]
        have := ih (a + 1) (by omega)
        split
        · omega
        · split <;> omega
    have hgg := hg (62 - l).toNat 0 (by omega)
    generalize gpf (S 1) l (62 - l).toNat 0 = g at hgg ⊢
    by_cases c2 : g = -1
    · repeat (first | (simp (disch := first | omega | exact it01) only [jn_it1, jn_it2, bo_some, bc_some, bx_inl, bx_inr, bn_some, bn_none, J_add, J_sub, J_mul, J_neg, J_0, J_lt, J_le, J_eq, J_ite, J01_0, J01_1, ite_not, ite_self, r_A0 hb, r_A1 hb, r_A2 hb, r_A3 hb, r_I4 hb, r_W4 hb, r_I5 hb, r_W5 hb, r_I6 hb, r_W6 hb, r_I7 hb, r_W7 hb, r_I8 hb, r_W8 hb, r_A9 hb, r_I10 hb, r_W10 hb, r_A11 hb, r_I12 hb, r_W12 hb, r_I13 hb, r_W13 hb, r_A14 hb, r_I15 hb, r_W15 hb, r_I16 hb, r_W16 hb, r_I17 hb, r_W17 hb, r_I18 hb, r_W18 hb, r_A19 hb, r_O hb, r_a1 hb, r_w1 hb, r_n1 hb, r_a2 hb, r_w2 hb, r_n2 hb, r_a3 hb, r_w3 hb, r_n3 hb, r_a4 hb, r_w4 hb, r_n4 hb, r_a5 hb, r_w5 hb, r_n5 hb, r_a6 hb, r_w6 hb, r_n6 hb, r_a7 hb, r_w7 hb, r_n7 hb, r_a8 hb, r_w8 hb, r_n8 hb, r_T13 hb, s_holdsT hb, s_goesT hb, s_place, s_isIn, s_isMetre, s_ofK hb, s_of0 hb, s_doc0 hb, thr, T13_1, T13_t, T13_2, up2_nj, up2_eq, up2_ne, Int.max_eq_right, ↓reduceIte, Int.reduceEq, Int.reduceNeg, Int.reduceLT, Int.reduceLE, Int.reduceAdd, Int.reduceSub, ne_eq, not_true_eq_false, not_false_eq_true, and_self, and_true, true_and, and_false, false_and, or_true, true_or, or_false, false_or, or_self, Int.reduceMul, c, c2]) | rw [jn_eq])
    · repeat (first | (simp (disch := first | omega | exact it01) only [jn_it1, jn_it2, bo_some, bc_some, bx_inl, bx_inr, bn_some, bn_none, J_add, J_sub, J_mul, J_neg, J_0, J_lt, J_le, J_eq, J_ite, J01_0, J01_1, ite_not, ite_self, r_A0 hb, r_A1 hb, r_A2 hb, r_A3 hb, r_I4 hb, r_W4 hb, r_I5 hb, r_W5 hb, r_I6 hb, r_W6 hb, r_I7 hb, r_W7 hb, r_I8 hb, r_W8 hb, r_A9 hb, r_I10 hb, r_W10 hb, r_A11 hb, r_I12 hb, r_W12 hb, r_I13 hb, r_W13 hb, r_A14 hb, r_I15 hb, r_W15 hb, r_I16 hb, r_W16 hb, r_I17 hb, r_W17 hb, r_I18 hb, r_W18 hb, r_A19 hb, r_O hb, r_a1 hb, r_w1 hb, r_n1 hb, r_a2 hb, r_w2 hb, r_n2 hb, r_a3 hb, r_w3 hb, r_n3 hb, r_a4 hb, r_w4 hb, r_n4 hb, r_a5 hb, r_w5 hb, r_n5 hb, r_a6 hb, r_w6 hb, r_n6 hb, r_a7 hb, r_w7 hb, r_n7 hb, r_a8 hb, r_w8 hb, r_n8 hb, r_T13 hb, s_holdsT hb, s_goesT hb, s_place, s_isIn, s_isMetre, s_ofK hb, s_of0 hb, s_doc0 hb, thr, T13_1, T13_t, T13_2, up2_nj, up2_eq, up2_ne, Int.max_eq_right, ↓reduceIte, Int.reduceEq, Int.reduceNeg, Int.reduceLT, Int.reduceLE, Int.reduceAdd, Int.reduceSub, ne_eq, not_true_eq_false, not_false_eq_true, and_self, and_true, true_and, and_false, false_and, or_true, true_or, or_false, false_or, or_self, Int.reduceMul, c, c2]) | rw [jn_eq])
  · rw [if_neg c]
    obtain ⟨n, rfl⟩ : ∃ n', N = n' + 1 := ⟨N - 1, by omega⟩
    rw [E_R_gap_13, B_R_gap_13, if_pos (by rfl)]
    repeat (first | (simp (disch := first | omega | exact it01) only [jn_it1, jn_it2, bo_some, bc_some, bx_inl, bx_inr, bn_some, bn_none, J_add, J_sub, J_mul, J_neg, J_0, J_lt, J_le, J_eq, J_ite, J01_0, J01_1, ite_not, ite_self, r_A0 hb, r_A1 hb, r_A2 hb, r_A3 hb, r_I4 hb, r_W4 hb, r_I5 hb, r_W5 hb, r_I6 hb, r_W6 hb, r_I7 hb, r_W7 hb, r_I8 hb, r_W8 hb, r_A9 hb, r_I10 hb, r_W10 hb, r_A11 hb, r_I12 hb, r_W12 hb, r_I13 hb, r_W13 hb, r_A14 hb, r_I15 hb, r_W15 hb, r_I16 hb, r_W16 hb, r_I17 hb, r_W17 hb, r_I18 hb, r_W18 hb, r_A19 hb, r_O hb, r_a1 hb, r_w1 hb, r_n1 hb, r_a2 hb, r_w2 hb, r_n2 hb, r_a3 hb, r_w3 hb, r_n3 hb, r_a4 hb, r_w4 hb, r_n4 hb, r_a5 hb, r_w5 hb, r_n5 hb, r_a6 hb, r_w6 hb, r_n6 hb, r_a7 hb, r_w7 hb, r_n7 hb, r_a8 hb, r_w8 hb, r_n8 hb, r_T13 hb, s_holdsT hb, s_goesT hb, s_place, s_isIn, s_isMetre, s_ofK hb, s_of0 hb, s_doc0 hb, thr, T13_1, T13_t, T13_2, up2_nj, up2_eq, up2_ne, Int.max_eq_right, ↓reduceIte, Int.reduceEq, Int.reduceNeg, Int.reduceLT, Int.reduceLE, Int.reduceAdd, Int.reduceSub, ne_eq, not_true_eq_false, not_false_eq_true, and_self, and_true, true_and, and_false, false_and, or_true, true_or, or_false, false_or, or_self, Int.reduceMul, c]) | rw [jn_eq])
def frm (V : Int → Int) : Nat → Int
  | 0 => 0
  | p + 1 => frm V p + (if at' V p = -1 then 1 else 0)
theorem s_freeOnes_L (hN : 2000 ≤ N) (hb : bOK Θ 9 m h) (hV : OKV (S 1)) {K : mH → Int32 → Option (Int32 × mH)} : ∀ (r j n : Nat), j + r = 60 → r < n → P_R_freeOnes_4 Θ N K m n (HR Θ m S h) (J (frm (S 1) j)) (J j) = K (HR Θ m S h) (J (frm (S 1) 60)) := by
  intro r
  induction r with
  | zero =>
    intro j n hj hn
    obtain ⟨n, rfl⟩ : ∃ n', n = n' + 1 := ⟨n - 1, by omega⟩
    obtain rfl : j = 60 := by omega
    rw [E_R_freeOnes_4, B_R_freeOnes_4, if_pos (by rw [J_le] <;> omega)]
  | succ r ih =>
    intro j n hj hn
    obtain ⟨n, rfl⟩ : ∃ n', n = n' + 1 := ⟨n - 1, by omega⟩
    have ih' := ih (j + 1) n (by omega) (by omega)
    have b := at_le (S := S) hV (p := j)
    have hm := hV.2
    rw [frm] at ih'
    rw [E_R_freeOnes_4, B_R_freeOnes_4, if_neg (by rw [J_le] <;> omega), r_O hb, s_at hN hb hV (by omega) (by omega), bc_some]
    simp (disch := omega) only [J_add, jn_it1, J_ite, J_eq]
    rw [← ih']
    rfl
theorem s_freeOnes (hN : 2000 ≤ N) (hb : bOK Θ 9 m h) (hV : OKV (S 1)) : P_R_freeOnes Θ N (HR Θ m S h) m = some (J (frm (S 1) 60), HR Θ m S h) := by
  unfold P_R_freeOnes
  exact s_freeOnes_L (K := fun h8 u9 => some (u9, h8)) hN hb hV 60 0 N (by omega) (by omega)
theorem q_freeMetres (hN : 2000 ≤ N) (hb : bOK Θ 9 m h) (hV : OKV (S 1)) : P_R_freeMetres Θ N (HR Θ m S h) m = some (J (frm (S 1) 60), HR Θ m (T13 S 0) h) := by
  unfold P_R_freeMetres
  rw [r_W13 hb, bo_some, r_O hb]
  have hT : OKV (T13 S 0 1) := by rw [T13_1]; exact hV
  have e := s_freeOnes (Θ := Θ) (m := m) (h := h) hN hb hT
  rw [T13_1] at e
  exact (congrArg (fun q => bc q _) e).trans rfl
/-! ranks -/
def bef (V : Int → Int) (b a : Int) : Prop := 0 < fd V b 8 - fd V a 8 ∨ (fd V b 8 - fd V a 8 = 0 ∧ (0 < fd V b 3 - fd V a 3 ∨ (fd V b 3 - fd V a 3 = 0 ∧ b < a)))
def ahd (V : Int → Int) (a : Int) : Nat → Int
  | 0 => 0
  | b + 1 => ahd V a b + (if 0 < fd V b 8 - fd V a 8 ∨ (fd V b 8 - fd V a 8 = 0 ∧ (0 < fd V b 3 - fd V a 3 ∨ (fd V b 3 - fd V a 3 = 0 ∧ (b : Int) < a))) then 1 else 0)
theorem ahd_le {V : Int → Int} {a : Int} : ∀ n : Nat, 0 ≤ ahd V a n ∧ ahd V a n ≤ n
  | 0 => by simp [ahd]
  | k + 1 => by
    have := ahd_le (V := V) (a := a) k
    rw [ahd]
    split <;> omega
def rkf (V : Int → Int) (r : Int) : Nat → Int
  | 0 => -1
  | a + 1 => if ahd V a (mny V) = r then fd V a 0 else rkf V r a
theorem s_ahead_L (hb : bOK Θ 9 m h) (hV : OKV (S 1)) {a : Int} (a1 : 0 ≤ a) (a2 : a ≤ 7) {x1 x2 : Int32} {K : mH → Int32 → Option (Int32 × mH)} : ∀ (r j n : Nat), (j : Int) + r = S 1 4 → r < n → P_R_shipAtRank_20 Θ N K m x1 x2 (J a) n (HR Θ m S h) (J (ahd (S 1) a j)) (J j) = K (HR Θ m S h) (J (ahd (S 1) a (mny (S 1)))) := by
  intro r
  have hm := hV.2
  induction r with
  | zero =>
    intro j n hj hn
    obtain ⟨n, rfl⟩ : ∃ n', n = n' + 1 := ⟨n - 1, by omega⟩
    rw [E_R_shipAtRank_20, B_R_shipAtRank_20, r_A0 hb, bo_some, r_a1 hb (by omega) (by omega), bo_some, if_pos (by rw [J_le] <;> omega), show mny (S 1) = j by unfold mny; omega]
  | succ r ih =>
    intro j n hj hn
    obtain ⟨n, rfl⟩ : ∃ n', n = n' + 1 := ⟨n - 1, by omega⟩
    have ih' := ih (j + 1) n (by omega) (by omega)
    have c8 := hV.fd j 8
    have d8 := hV.fd a 8
    have c3 := hV.fd j 3
    have d3 := hV.fd a 3
    rw [ahd] at ih'
    rw [E_R_shipAtRank_20, B_R_shipAtRank_20, r_A0 hb, bo_some, r_a1 hb (by omega) (by omega), bo_some, if_neg (by rw [J_le] <;> omega)]
    simp (disch := omega) only [r_O hb, s_ofK hb, bc_some, J_add, J_sub]
    rw [← ih', jn_eq]
    by_cases e1 : 0 < fd (S 1) j 8 - fd (S 1) a 8
    · rw [jn_eq, if_pos (by rw [J_0, J_lt] <;> omega), if_pos (by omega)]
      dsimp only
      rw [J_add]
      rfl
    · by_cases e2 : fd (S 1) j 8 - fd (S 1) a 8 = 0
      · by_cases e3 : 0 < fd (S 1) j 3 - fd (S 1) a 3
        · rw [jn_eq, if_neg (by rw [J_0, J_lt] <;> omega), jn_eq, if_pos (by rw [J_0, J_eq] <;> omega), if_pos (by rw [J_0, J_lt] <;> omega), if_pos (by omega)]
          dsimp only
          rw [J_add]
          rfl
        · by_cases e4 : fd (S 1) j 3 - fd (S 1) a 3 = 0
          · by_cases e5 : a ≤ j
            · rw [jn_eq, if_neg (by rw [J_0, J_lt] <;> omega), jn_eq, if_pos (by rw [J_0, J_eq] <;> omega), if_neg (by rw [J_0, J_lt] <;> omega), if_pos (by rw [J_0, J_eq] <;> omega), if_pos (by rw [J_le] <;> omega), if_neg (by omega)]
              dsimp only
              rw [J_add]
              rfl
            · rw [jn_eq, if_neg (by rw [J_0, J_lt] <;> omega), jn_eq, if_pos (by rw [J_0, J_eq] <;> omega), if_neg (by rw [J_0, J_lt] <;> omega), if_pos (by rw [J_0, J_eq] <;> omega), if_neg (by rw [J_le] <;> omega), if_pos (by omega)]
              dsimp only
              rw [J_add]
              rfl
          · rw [jn_eq, if_neg (by rw [J_0, J_lt] <;> omega), jn_eq, if_pos (by rw [J_0, J_eq] <;> omega), if_neg (by rw [J_0, J_lt] <;> omega), if_neg (by rw [J_0, J_eq] <;> omega), if_neg (by omega)]
            dsimp only
            rw [J_add]
            rfl
      · rw [jn_eq, if_neg (by rw [J_0, J_lt] <;> omega), jn_eq, if_neg (by rw [J_0, J_eq] <;> omega), if_neg (by omega)]
        dsimp only
        rw [J_add]
        rfl
theorem s_rank_L (hN : 2000 ≤ N) (hb : bOK Θ 9 m h) (hV : OKV (S 1)) {k : Int} (a1 : -2147483648 ≤ k) (a2 : k < 2147483648) {K : mH → Int32 → Option (Int32 × mH)} : ∀ (r j n : Nat), (j : Int) + r = S 1 4 → r < n → P_R_shipAtRank_4 Θ N K m (J k) n (HR Θ m S h) (J (rkf (S 1) k j)) (J j) = K (HR Θ m S h) (J (rkf (S 1) k (mny (S 1)))) := by
  intro r
  have hm := hV.2
  induction r with
  | zero =>
    intro j n hj hn
    obtain ⟨n, rfl⟩ : ∃ n', n = n' + 1 := ⟨n - 1, by omega⟩
    rw [E_R_shipAtRank_4, B_R_shipAtRank_4, r_A0 hb, bo_some, r_a1 hb (by omega) (by omega), bo_some, if_pos (by rw [J_le] <;> omega), show mny (S 1) = j by unfold mny; omega]
  | succ r ih =>
    intro j n hj hn
    obtain ⟨n, rfl⟩ : ∃ n', n = n' + 1 := ⟨n - 1, by omega⟩
    have ih' := ih (j + 1) n (by omega) (by omega)
    have b := ahd_le (V := S 1) (a := j) (mny (S 1))
    have bm : (mny (S 1) : Int) ≤ 8 := by unfold mny; omega
    rw [rkf] at ih'
    rw [E_R_shipAtRank_4, B_R_shipAtRank_4, r_A0 hb, bo_some, r_a1 hb (by omega) (by omega), bo_some, if_neg (by rw [J_le] <;> omega)]
    have e := fun K => s_ahead_L (Θ := Θ) (N := N) (m := m) (S := S) (h := h) (x1 := J k) (x2 := J (rkf (S 1) k j)) hb hV (a := j) (by omega) (by omega) (K := K) (S 1 4).toNat 0 N (by omega) (by omega)
    refine (e _).trans ?_
    rw [← ih', jn_eq]
    by_cases c : ahd (S 1) j (mny (S 1)) = k
    · rw [if_pos (by rw [c]), r_O hb, s_ofK hb (by omega) (by omega) (by omega) (by omega), bc_some, J_add, if_pos c]
      rfl
    · rw [if_neg (by rw [J_eq] <;> omega), J_add, if_neg c]
      rfl
theorem rkf_le (hV : OKV (S 1)) {k : Int} : ∀ n : Nat, -100000000 ≤ rkf (S 1) k n ∧ rkf (S 1) k n ≤ 100000000
  | 0 => by simp [rkf]
  | a + 1 => by
    have := rkf_le hV (k := k) a
    have := hV.fd a 0
    rw [rkf]
    split <;> omega
theorem q_shipAtRank (hN : 2000 ≤ N) (hb : bOK Θ 9 m h) (hV : OKV (S 1)) {k : Int} (a1 : -2147483648 ≤ k) (a2 : k < 2147483648) : P_R_shipAtRank Θ N (HR Θ m S h) m (J k) = if rkf (S 1) k (mny (S 1)) = -1 then some (J 0, HR Θ m (T13 S 1) h) else some (J (rkf (S 1) k (mny (S 1))), HR Θ m (T13 S 0) h) := by
  unfold P_R_shipAtRank
  have hm := hV.2
  have e := fun K => s_rank_L (Θ := Θ) (N := N) (m := m) (S := S) (h := h) hN hb hV (k := k) a1 a2 (K := K) (S 1 4).toNat 0 N (by omega) (by omega)
  refine (e _).trans ?_
  have b := rkf_le (S := S) hV (k := k) (mny (S 1))
  generalize rkf (S 1) k (mny (S 1)) = g at b ⊢
  by_cases c : g = -1
  · repeat (first | (simp (disch := first | omega | exact it01) only [jn_it1, jn_it2, bo_some, bc_some, bx_inl, bx_inr, bn_some, bn_none, J_add, J_sub, J_mul, J_neg, J_0, J_lt, J_le, J_eq, J_ite, J01_0, J01_1, ite_not, ite_self, r_A0 hb, r_A1 hb, r_A2 hb, r_A3 hb, r_I4 hb, r_W4 hb, r_I5 hb, r_W5 hb, r_I6 hb, r_W6 hb, r_I7 hb, r_W7 hb, r_I8 hb, r_W8 hb, r_A9 hb, r_I10 hb, r_W10 hb, r_A11 hb, r_I12 hb, r_W12 hb, r_I13 hb, r_W13 hb, r_A14 hb, r_I15 hb, r_W15 hb, r_I16 hb, r_W16 hb, r_I17 hb, r_W17 hb, r_I18 hb, r_W18 hb, r_A19 hb, r_O hb, r_a1 hb, r_w1 hb, r_n1 hb, r_a2 hb, r_w2 hb, r_n2 hb, r_a3 hb, r_w3 hb, r_n3 hb, r_a4 hb, r_w4 hb, r_n4 hb, r_a5 hb, r_w5 hb, r_n5 hb, r_a6 hb, r_w6 hb, r_n6 hb, r_a7 hb, r_w7 hb, r_n7 hb, r_a8 hb, r_w8 hb, r_n8 hb, r_T13 hb, s_holdsT hb, s_goesT hb, s_place, s_isIn, s_isMetre, s_ofK hb, s_of0 hb, s_doc0 hb, thr, T13_1, T13_t, T13_2, up2_nj, up2_eq, up2_ne, Int.max_eq_right, ↓reduceIte, Int.reduceEq, Int.reduceNeg, Int.reduceLT, Int.reduceLE, Int.reduceAdd, Int.reduceSub, ne_eq, not_true_eq_false, not_false_eq_true, and_self, and_true, true_and, and_false, false_and, or_true, true_or, or_false, false_or, or_self, Int.reduceMul, c]) | rw [jn_eq])
  · repeat (first | (simp (disch := first | omega | exact it01) only [jn_it1, jn_it2, bo_some, bc_some, bx_inl, bx_inr, bn_some, bn_none, J_add, J_sub, J_mul, J_neg, J_0, J_lt, J_le, J_eq, J_ite, J01_0, J01_1, ite_not, ite_self, r_A0 hb, r_A1 hb, r_A2 hb, r_A3 hb, r_I4 hb, r_W4 hb, r_I5 hb, r_W5 hb, r_I6 hb, r_W6 hb, r_I7 hb, r_W7 hb, r_I8 hb, r_W8 hb, r_A9 hb, r_I10 hb, r_W10 hb, r_A11 hb, r_I12 hb, r_W12 hb, r_I13 hb, r_W13 hb, r_A14 hb, r_I15 hb, r_W15 hb, r_I16 hb, r_W16 hb, r_I17 hb, r_W17 hb, r_I18 hb, r_W18 hb, r_A19 hb, r_O hb, r_a1 hb, r_w1 hb, r_n1 hb, r_a2 hb, r_w2 hb, r_n2 hb, r_a3 hb, r_w3 hb, r_n3 hb, r_a4 hb, r_w4 hb, r_n4 hb, r_a5 hb, r_w5 hb, r_n5 hb, r_a6 hb, r_w6 hb, r_n6 hb, r_a7 hb, r_w7 hb, r_n7 hb, r_a8 hb, r_w8 hb, r_n8 hb, r_T13 hb, s_holdsT hb, s_goesT hb, s_place, s_isIn, s_isMetre, s_ofK hb, s_of0 hb, s_doc0 hb, thr, T13_1, T13_t, T13_2, up2_nj, up2_eq, up2_ne, Int.max_eq_right, ↓reduceIte, Int.reduceEq, Int.reduceNeg, Int.reduceLT, Int.reduceLE, Int.reduceAdd, Int.reduceSub, ne_eq, not_true_eq_false, not_false_eq_true, and_self, and_true, true_and, and_false, false_and, or_true, true_or, or_false, false_or, or_self, Int.reduceMul, c]) | rw [jn_eq])
/-! levels ahead -/
def lva (V : Int → Int) : Nat → Int
  | 0 => V 1
  | k + 1 => lvl V (lva V k) (V 0 + (k + 1))
theorem lvl_rng {V : Int → Int} {l t : Int} (h1 : 0 ≤ l) (h2 : l ≤ 200) : 0 ≤ lvl V l t ∧ lvl V l t ≤ 200 := by
  unfold lvl
  have := sea_le t
  split <;> omega
theorem lva_rng {V : Int → Int} (h1 : 0 ≤ V 1) (h2 : V 1 ≤ 200) : ∀ k, 0 ≤ lva V k ∧ lva V k ≤ 200
  | 0 => ⟨h1, h2⟩
  | k + 1 => by
    have := lva_rng h1 h2 k
    exact lvl_rng this.1 this.2
theorem s_levelAfter_L (hb : bOK Θ 9 m h) (hV : OKV (S 1)) (h0 : 0 ≤ S 1 0) (h9 : S 1 0 ≤ 1000000) (h1 : 0 ≤ S 1 1) (h2 : S 1 1 ≤ 200) {t : Int} (t2 : t ≤ 96) {K : mH → Int32 → Option (Int32 × mH)} : ∀ (r j n : Nat), (j : Int) + r = t → r < n → P_R_levelAfter_9 Θ N K m (J t) n (HR Θ m S h) (J (lva (S 1) j)) (J (1 + j)) = K (HR Θ m S h) (J (lva (S 1) t.toNat)) := by
  intro r
  induction r with
  | zero =>
    intro j n hj hn
    obtain ⟨n, rfl⟩ : ∃ n', n = n' + 1 := ⟨n - 1, by omega⟩
    rw [E_R_levelAfter_9, B_R_levelAfter_9, if_pos (by rw [J_lt] <;> omega), show t.toNat = j by omega]
  | succ r ih =>
    intro j n hj hn
    obtain ⟨n, rfl⟩ : ∃ n', n = n' + 1 := ⟨n - 1, by omega⟩
    have ih' := ih (j + 1) n (by omega) (by omega)
    have b := lva_rng h1 h2 j
    rw [lva] at ih'
    rw [E_R_levelAfter_9, B_R_levelAfter_9, if_neg (by rw [J_lt] <;> omega), if_neg (by rw [J_lt] <;> omega), r_A0 hb, bo_some, r_a1 hb (by omega) (by omega), bo_some, J_add, r_O hb, s_levelThen hb hV (by omega) (by omega) (by omega) (by omega), bc_some, J_add, ← ih', show S 1 0 + (1 + (j : Int)) = S 1 0 + ((j : Int) + 1) by omega, show (1 : Int) + ((j + 1 : Nat) : Int) = 1 + (j : Int) + 1 by omega]
theorem q_levelAfter (hN : 2000 ≤ N) (hb : bOK Θ 9 m h) (hV : OKV (S 1)) (h0 : 0 ≤ S 1 0) (h9 : S 1 0 ≤ 1000000) (h1 : 0 ≤ S 1 1) (h2 : S 1 1 ≤ 200) {t : Int} (i1 : -2147483648 ≤ t) (i2 : t < 2147483648) : P_R_levelAfter Θ N (HR Θ m S h) m (J t) = if 0 ≤ t ∧ t ≤ 96 then some (J (lva (S 1) t.toNat), HR Θ m (T13 S 0) h) else some (J 0, HR Θ m (T13 S 1) h) := by
  unfold P_R_levelAfter
  rw [r_A0 hb, bo_some, r_a1 hb (by omega) (by omega), bo_some]
  by_cases c : 0 ≤ t ∧ t ≤ 96
  · have e := fun K => s_levelAfter_L (Θ := Θ) (N := N) (m := m) (S := S) (h := h) hb hV h0 h9 h1 h2 (t := t) c.2 (K := K) t.toNat 0 N (by omega) (by omega)
    refine (e _).trans ?_
    repeat (first | (simp (disch := first | omega | exact it01) only [jn_it1, jn_it2, bo_some, bc_some, bx_inl, bx_inr, bn_some, bn_none, J_add, J_sub, J_mul, J_neg, J_0, J_lt, J_le, J_eq, J_ite, J01_0, J01_1, ite_not, ite_self, r_A0 hb, r_A1 hb, r_A2 hb, r_A3 hb, r_I4 hb, r_W4 hb, r_I5 hb, r_W5 hb, r_I6 hb, r_W6 hb, r_I7 hb, r_W7 hb, r_I8 hb, r_W8 hb, r_A9 hb, r_I10 hb, r_W10 hb, r_A11 hb, r_I12 hb, r_W12 hb, r_I13 hb, r_W13 hb, r_A14 hb, r_I15 hb, r_W15 hb, r_I16 hb, r_W16 hb, r_I17 hb, r_W17 hb, r_I18 hb, r_W18 hb, r_A19 hb, r_O hb, r_a1 hb, r_w1 hb, r_n1 hb, r_a2 hb, r_w2 hb, r_n2 hb, r_a3 hb, r_w3 hb, r_n3 hb, r_a4 hb, r_w4 hb, r_n4 hb, r_a5 hb, r_w5 hb, r_n5 hb, r_a6 hb, r_w6 hb, r_n6 hb, r_a7 hb, r_w7 hb, r_n7 hb, r_a8 hb, r_w8 hb, r_n8 hb, r_T13 hb, s_holdsT hb, s_goesT hb, s_place, s_isIn, s_isMetre, s_ofK hb, s_of0 hb, s_doc0 hb, thr, T13_1, T13_t, T13_2, up2_nj, up2_eq, up2_ne, Int.max_eq_right, ↓reduceIte, Int.reduceEq, Int.reduceNeg, Int.reduceLT, Int.reduceLE, Int.reduceAdd, Int.reduceSub, ne_eq, not_true_eq_false, not_false_eq_true, and_self, and_true, true_and, and_false, false_and, or_true, true_or, or_false, false_or, or_self, Int.reduceMul, c]) | rw [jn_eq])
  · obtain ⟨n, rfl⟩ : ∃ n', N = n' + 1 := ⟨N - 1, by omega⟩
    rw [E_R_levelAfter_9, B_R_levelAfter_9]
    have e : (if J t < J 1 then (bc (P_R_isIn Θ (n + 1) (HR Θ m S h) (J t) (J 0) (J 96)) fun v10 h9 => gO Θ h9 9 m (bc (P_R_goes Θ (n + 1) h9 m v10) fun v12 h11 => if v12 = 0 then some (J 0, h11) else some (J (S 1 1), h11))) else some (J 0, HR Θ m (T13 S 1) h)) = some (J 0, HR Θ m (T13 S 1) h) := by
      split
      · repeat (first | (simp (disch := first | omega | exact it01) only [jn_it1, jn_it2, bo_some, bc_some, bx_inl, bx_inr, bn_some, bn_none, J_add, J_sub, J_mul, J_neg, J_0, J_lt, J_le, J_eq, J_ite, J01_0, J01_1, ite_not, ite_self, r_A0 hb, r_A1 hb, r_A2 hb, r_A3 hb, r_I4 hb, r_W4 hb, r_I5 hb, r_W5 hb, r_I6 hb, r_W6 hb, r_I7 hb, r_W7 hb, r_I8 hb, r_W8 hb, r_A9 hb, r_I10 hb, r_W10 hb, r_A11 hb, r_I12 hb, r_W12 hb, r_I13 hb, r_W13 hb, r_A14 hb, r_I15 hb, r_W15 hb, r_I16 hb, r_W16 hb, r_I17 hb, r_W17 hb, r_I18 hb, r_W18 hb, r_A19 hb, r_O hb, r_a1 hb, r_w1 hb, r_n1 hb, r_a2 hb, r_w2 hb, r_n2 hb, r_a3 hb, r_w3 hb, r_n3 hb, r_a4 hb, r_w4 hb, r_n4 hb, r_a5 hb, r_w5 hb, r_n5 hb, r_a6 hb, r_w6 hb, r_n6 hb, r_a7 hb, r_w7 hb, r_n7 hb, r_a8 hb, r_w8 hb, r_n8 hb, r_T13 hb, s_holdsT hb, s_goesT hb, s_place, s_isIn, s_isMetre, s_ofK hb, s_of0 hb, s_doc0 hb, thr, T13_1, T13_t, T13_2, up2_nj, up2_eq, up2_ne, Int.max_eq_right, ↓reduceIte, Int.reduceEq, Int.reduceNeg, Int.reduceLT, Int.reduceLE, Int.reduceAdd, Int.reduceSub, ne_eq, not_true_eq_false, not_false_eq_true, and_self, and_true, true_and, and_false, false_and, or_true, true_or, or_false, false_or, or_self, Int.reduceMul, c]) | rw [jn_eq])
      · rfl
    by_cases c3 : t < 1
    · rw [if_pos (by rw [J_lt] <;> omega)]
      rw [if_pos (by rw [J_lt] <;> omega)] at e
      rw [if_neg c]
      exact e
    · rw [if_neg (by rw [J_lt] <;> omega), if_pos (by rw [J_lt] <;> omega)]
      repeat (first | (simp (disch := first | omega | exact it01) only [jn_it1, jn_it2, bo_some, bc_some, bx_inl, bx_inr, bn_some, bn_none, J_add, J_sub, J_mul, J_neg, J_0, J_lt, J_le, J_eq, J_ite, J01_0, J01_1, ite_not, ite_self, r_A0 hb, r_A1 hb, r_A2 hb, r_A3 hb, r_I4 hb, r_W4 hb, r_I5 hb, r_W5 hb, r_I6 hb, r_W6 hb, r_I7 hb, r_W7 hb, r_I8 hb, r_W8 hb, r_A9 hb, r_I10 hb, r_W10 hb, r_A11 hb, r_I12 hb, r_W12 hb, r_I13 hb, r_W13 hb, r_A14 hb, r_I15 hb, r_W15 hb, r_I16 hb, r_W16 hb, r_I17 hb, r_W17 hb, r_I18 hb, r_W18 hb, r_A19 hb, r_O hb, r_a1 hb, r_w1 hb, r_n1 hb, r_a2 hb, r_w2 hb, r_n2 hb, r_a3 hb, r_w3 hb, r_n3 hb, r_a4 hb, r_w4 hb, r_n4 hb, r_a5 hb, r_w5 hb, r_n5 hb, r_a6 hb, r_w6 hb, r_n6 hb, r_a7 hb, r_w7 hb, r_n7 hb, r_a8 hb, r_w8 hb, r_n8 hb, r_T13 hb, s_holdsT hb, s_goesT hb, s_place, s_isIn, s_isMetre, s_ofK hb, s_of0 hb, s_doc0 hb, thr, T13_1, T13_t, T13_2, up2_nj, up2_eq, up2_ne, Int.max_eq_right, ↓reduceIte, Int.reduceEq, Int.reduceNeg, Int.reduceLT, Int.reduceLE, Int.reduceAdd, Int.reduceSub, ne_eq, not_true_eq_false, not_false_eq_true, and_self, and_true, true_and, and_false, false_and, or_true, true_or, or_false, false_or, or_self, Int.reduceMul, c]) | rw [jn_eq])
def hgo (V : Int → Int) (w : Int) : Nat → Nat → Int
  | 0, _ => -1
  | r + 1, k => if fd V w 2 ≤ lva V k then k else hgo V w r (k + 1)
theorem s_until_L (hb : bOK Θ 9 m h) (hV : OKV (S 1)) (h0 : 0 ≤ S 1 0) (h9 : S 1 0 ≤ 1000000) (h1 : 0 ≤ S 1 1) (h2 : S 1 1 ≤ 200) {w : Int} (w1 : 0 ≤ w) (w2 : w ≤ 7) {K : mH → Int32 → Option (Int32 × mH)} : ∀ (r j n : Nat), j + r = 96 → r + 1 < n → P_R_hoursUntilAfloat_31 Θ N K m (J w) n (HR Θ m S h) (J (-1)) (J (lva (S 1) j)) (J (1 + j)) = K (HR Θ m S h) (J (hgo (S 1) w r (j + 1))) := by
  intro r
  induction r with
  | zero =>
    intro j n hj hn
    obtain ⟨n, rfl⟩ : ∃ n', n = n' + 1 := ⟨n - 1, by omega⟩
    rw [E_R_hoursUntilAfloat_31, B_R_hoursUntilAfloat_31, if_pos (by rw [J_lt] <;> omega), hgo]
  | succ r ih =>
    intro j n hj hn
    obtain ⟨n, rfl⟩ : ∃ n', n = n' + 1 := ⟨n - 1, by omega⟩
    have ih' := ih (j + 1) n (by omega) (by omega)
    have b := lva_rng h1 h2 j
    have b' := lva_rng h1 h2 (j + 1)
    have b2 := hV.fd w 2
    rw [E_R_hoursUntilAfloat_31, B_R_hoursUntilAfloat_31, if_neg (by rw [J_lt] <;> omega), if_pos rfl, r_A0 hb, bo_some, r_a1 hb (by omega) (by omega), bo_some, J_add, r_O hb, s_levelThen hb hV (by omega) (by omega) (by omega) (by omega), bc_some, r_O hb, s_ofK hb w1 w2 (by omega) (by omega), bc_some, jn_eq, J_add, show S 1 0 + (1 + (j : Int)) = S 1 0 + ((j : Int) + 1) by omega, show lvl (S 1) (lva (S 1) j) (S 1 0 + ((j : Int) + 1)) = lva (S 1) (j + 1) from rfl, hgo]
    rw [show (1 : Int) + ((j + 1 : Nat) : Int) = 1 + (j : Int) + 1 by omega] at ih'
    by_cases c : fd (S 1) w 2 ≤ lva (S 1) (j + 1)
    · rw [if_neg (by rw [J_lt] <;> omega), if_pos c]
      obtain ⟨n, rfl⟩ : ∃ n', n = n' + 1 := ⟨n - 1, by omega⟩
      dsimp only
      rw [E_R_hoursUntilAfloat_31, B_R_hoursUntilAfloat_31, show ((j + 1 : Nat) : Int) = 1 + (j : Int) by omega]
      split
      · rfl
      · rw [if_neg (by rw [J_eq] <;> omega)]
    · rw [if_pos (by rw [J_lt] <;> omega), if_neg c]
      exact ih'
theorem q_hoursUntilAfloat (hN : 2000 ≤ N) (hb : bOK Θ 9 m h) (hV : OKV (S 1)) (h0 : 0 ≤ S 1 0) (h9 : S 1 0 ≤ 1000000) (h1 : 0 ≤ S 1 1) (h2 : S 1 1 ≤ 200) {id : Int} (i1 : -2147483648 ≤ id) (i2 : id < 2147483648) : P_R_hoursUntilAfloat Θ N (HR Θ m S h) m (J id) = if fnd (S 1) id (mny (S 1)) = -1 then some (J 0, HR Θ m (T13 S 1) h) else if fd (S 1) (fnd (S 1) id (mny (S 1))) 4 = -1 ∨ fd (S 1) (fnd (S 1) id (mny (S 1))) 2 ≤ S 1 1 then some (J 0, HR Θ m (T13 S 0) h) else if hgo (S 1) (fnd (S 1) id (mny (S 1))) 96 1 = -1 then some (J 0, HR Θ m (T13 S 2) h) else some (J (hgo (S 1) (fnd (S 1) id (mny (S 1))) 96 1), HR Θ m (T13 S 0) h) := by
  unfold P_R_hoursUntilAfloat
  have hw := fnd_rng (S := S) hV (id := id)
  rw [r_O hb, s_find hN hb hV i1 i2, bc_some]
  generalize fnd (S 1) id (mny (S 1)) = w at hw ⊢
  have hm := hV.2
  have z : ∀ K x, P_R_hoursUntilAfloat_31 Θ N K m x N (HR Θ m S h) (J 0) (J (S 1 1)) (J 1) = K (HR Θ m S h) (J 0) := by
    intro K x
    obtain ⟨n, rfl⟩ : ∃ n', N = n' + 1 := ⟨N - 1, by omega⟩
    rw [E_R_hoursUntilAfloat_31, B_R_hoursUntilAfloat_31, if_neg (by rw [J_lt] <;> omega), if_neg (by rw [J_eq] <;> omega)]
  by_cases c1 : w = -1
  · subst c1
    rw [r_O hb, s_floats0 hb, bc_some, jn_eq, if_neg (by rw [J_0, J_eq] <;> omega)]
    dsimp only
    rw [r_A0 hb, bo_some, r_a1 hb (by omega) (by omega), bo_some, z]
    repeat (first | (simp (disch := first | omega | exact it01) only [jn_it1, jn_it2, bo_some, bc_some, bx_inl, bx_inr, bn_some, bn_none, J_add, J_sub, J_mul, J_neg, J_0, J_lt, J_le, J_eq, J_ite, J01_0, J01_1, ite_not, ite_self, r_A0 hb, r_A1 hb, r_A2 hb, r_A3 hb, r_I4 hb, r_W4 hb, r_I5 hb, r_W5 hb, r_I6 hb, r_W6 hb, r_I7 hb, r_W7 hb, r_I8 hb, r_W8 hb, r_A9 hb, r_I10 hb, r_W10 hb, r_A11 hb, r_I12 hb, r_W12 hb, r_I13 hb, r_W13 hb, r_A14 hb, r_I15 hb, r_W15 hb, r_I16 hb, r_W16 hb, r_I17 hb, r_W17 hb, r_I18 hb, r_W18 hb, r_A19 hb, r_O hb, r_a1 hb, r_w1 hb, r_n1 hb, r_a2 hb, r_w2 hb, r_n2 hb, r_a3 hb, r_w3 hb, r_n3 hb, r_a4 hb, r_w4 hb, r_n4 hb, r_a5 hb, r_w5 hb, r_n5 hb, r_a6 hb, r_w6 hb, r_n6 hb, r_a7 hb, r_w7 hb, r_n7 hb, r_a8 hb, r_w8 hb, r_n8 hb, r_T13 hb, s_holdsT hb, s_goesT hb, s_place, s_isIn, s_isMetre, s_ofK hb, s_of0 hb, s_doc0 hb, thr, T13_1, T13_t, T13_2, up2_nj, up2_eq, up2_ne, Int.max_eq_right, ↓reduceIte, Int.reduceEq, Int.reduceNeg, Int.reduceLT, Int.reduceLE, Int.reduceAdd, Int.reduceSub, ne_eq, not_true_eq_false, not_false_eq_true, and_self, and_true, true_and, and_false, false_and, or_true, true_or, or_false, false_or, or_self, Int.reduceMul]) | rw [jn_eq])
  · rw [r_O hb, s_floatsK hb hV (by omega) (by omega), bc_some, jn_eq]
    by_cases c2 : fd (S 1) w 4 = -1 ∨ fd (S 1) w 2 ≤ S 1 1
    · rw [if_pos c2, if_neg (by rw [J_0, J_eq] <;> omega)]
      dsimp only
      rw [r_A0 hb, bo_some, r_a1 hb (by omega) (by omega), bo_some, z]
      repeat (first | (simp (disch := first | omega | exact it01) only [jn_it1, jn_it2, bo_some, bc_some, bx_inl, bx_inr, bn_some, bn_none, J_add, J_sub, J_mul, J_neg, J_0, J_lt, J_le, J_eq, J_ite, J01_0, J01_1, ite_not, ite_self, r_A0 hb, r_A1 hb, r_A2 hb, r_A3 hb, r_I4 hb, r_W4 hb, r_I5 hb, r_W5 hb, r_I6 hb, r_W6 hb, r_I7 hb, r_W7 hb, r_I8 hb, r_W8 hb, r_A9 hb, r_I10 hb, r_W10 hb, r_A11 hb, r_I12 hb, r_W12 hb, r_I13 hb, r_W13 hb, r_A14 hb, r_I15 hb, r_W15 hb, r_I16 hb, r_W16 hb, r_I17 hb, r_W17 hb, r_I18 hb, r_W18 hb, r_A19 hb, r_O hb, r_a1 hb, r_w1 hb, r_n1 hb, r_a2 hb, r_w2 hb, r_n2 hb, r_a3 hb, r_w3 hb, r_n3 hb, r_a4 hb, r_w4 hb, r_n4 hb, r_a5 hb, r_w5 hb, r_n5 hb, r_a6 hb, r_w6 hb, r_n6 hb, r_a7 hb, r_w7 hb, r_n7 hb, r_a8 hb, r_w8 hb, r_n8 hb, r_T13 hb, s_holdsT hb, s_goesT hb, s_place, s_isIn, s_isMetre, s_ofK hb, s_of0 hb, s_doc0 hb, thr, T13_1, T13_t, T13_2, up2_nj, up2_eq, up2_ne, Int.max_eq_right, ↓reduceIte, Int.reduceEq, Int.reduceNeg, Int.reduceLT, Int.reduceLE, Int.reduceAdd, Int.reduceSub, ne_eq, not_true_eq_false, not_false_eq_true, and_self, and_true, true_and, and_false, false_and, or_true, true_or, or_false, false_or, or_self, Int.reduceMul, c1, c2]) | rw [jn_eq])
    · have e := fun K => s_until_L (Θ := Θ) (N := N) (m := m) (S := S) (h := h) hb hV h0 h9 h1 h2 (w := w) (by omega) (by omega) (K := K) 96 0 N (by omega) (by omega)
      rw [if_neg c2, if_pos (by rfl)]
      dsimp only
      rw [r_A0 hb, bo_some, r_a1 hb (by omega) (by omega), bo_some]
      refine (e _).trans ?_
      have hg : ∀ (r k : Nat), k + r ≤ 97 → -1 ≤ hgo (S 1) w r k ∧ hgo (S 1) w r k ≤ 97 := by
        intro r
        induction r with
        | zero => intro k hk; rw [hgo]; omega
        | succ r ih =>
          intro k hk
          rw [hgo]
          have := ih (k + 1) (by omega)
          split <;> omega
      have hgg := hg 96 1 (by omega)
      show (fun (h19 : mH) (u20 : Int32) => _) (HR Θ m S h) (J (hgo (S 1) w 96 1)) = _
      generalize hgo (S 1) w 96 1 = g at hgg ⊢
      by_cases c3 : g = -1
      · repeat (first | (simp (disch := first | omega | exact it01) only [jn_it1, jn_it2, bo_some, bc_some, bx_inl, bx_inr, bn_some, bn_none, J_add, J_sub, J_mul, J_neg, J_0, J_lt, J_le, J_eq, J_ite, J01_0, J01_1, ite_not, ite_self, r_A0 hb, r_A1 hb, r_A2 hb, r_A3 hb, r_I4 hb, r_W4 hb, r_I5 hb, r_W5 hb, r_I6 hb, r_W6 hb, r_I7 hb, r_W7 hb, r_I8 hb, r_W8 hb, r_A9 hb, r_I10 hb, r_W10 hb, r_A11 hb, r_I12 hb, r_W12 hb, r_I13 hb, r_W13 hb, r_A14 hb, r_I15 hb, r_W15 hb, r_I16 hb, r_W16 hb, r_I17 hb, r_W17 hb, r_I18 hb, r_W18 hb, r_A19 hb, r_O hb, r_a1 hb, r_w1 hb, r_n1 hb, r_a2 hb, r_w2 hb, r_n2 hb, r_a3 hb, r_w3 hb, r_n3 hb, r_a4 hb, r_w4 hb, r_n4 hb, r_a5 hb, r_w5 hb, r_n5 hb, r_a6 hb, r_w6 hb, r_n6 hb, r_a7 hb, r_w7 hb, r_n7 hb, r_a8 hb, r_w8 hb, r_n8 hb, r_T13 hb, s_holdsT hb, s_goesT hb, s_place, s_isIn, s_isMetre, s_ofK hb, s_of0 hb, s_doc0 hb, thr, T13_1, T13_t, T13_2, up2_nj, up2_eq, up2_ne, Int.max_eq_right, ↓reduceIte, Int.reduceEq, Int.reduceNeg, Int.reduceLT, Int.reduceLE, Int.reduceAdd, Int.reduceSub, ne_eq, not_true_eq_false, not_false_eq_true, and_self, and_true, true_and, and_false, false_and, or_true, true_or, or_false, false_or, or_self, Int.reduceMul, c1, c2, c3]) | rw [jn_eq])
      · repeat (first | (simp (disch := first | omega | exact it01) only [jn_it1, jn_it2, bo_some, bc_some, bx_inl, bx_inr, bn_some, bn_none, J_add, J_sub, J_mul, J_neg, J_0, J_lt, J_le, J_eq, J_ite, J01_0, J01_1, ite_not, ite_self, r_A0 hb, r_A1 hb, r_A2 hb, r_A3 hb, r_I4 hb, r_W4 hb, r_I5 hb, r_W5 hb, r_I6 hb, r_W6 hb, r_I7 hb, r_W7 hb, r_I8 hb, r_W8 hb, r_A9 hb, r_I10 hb, r_W10 hb, r_A11 hb, r_I12 hb, r_W12 hb, r_I13 hb, r_W13 hb, r_A14 hb, r_I15 hb, r_W15 hb, r_I16 hb, r_W16 hb, r_I17 hb, r_W17 hb, r_I18 hb, r_W18 hb, r_A19 hb, r_O hb, r_a1 hb, r_w1 hb, r_n1 hb, r_a2 hb, r_w2 hb, r_n2 hb, r_a3 hb, r_w3 hb, r_n3 hb, r_a4 hb, r_w4 hb, r_n4 hb, r_a5 hb, r_w5 hb, r_n5 hb, r_a6 hb, r_w6 hb, r_n6 hb, r_a7 hb, r_w7 hb, r_n7 hb, r_a8 hb, r_w8 hb, r_n8 hb, r_T13 hb, s_holdsT hb, s_goesT hb, s_place, s_isIn, s_isMetre, s_ofK hb, s_of0 hb, s_doc0 hb, thr, T13_1, T13_t, T13_2, up2_nj, up2_eq, up2_ne, Int.max_eq_right, ↓reduceIte, Int.reduceEq, Int.reduceNeg, Int.reduceLT, Int.reduceLE, Int.reduceAdd, Int.reduceSub, ne_eq, not_true_eq_false, not_false_eq_true, and_self, and_true, true_and, and_false, false_and, or_true, true_or, or_false, false_or, or_self, Int.reduceMul, c1, c2, c3]) | rw [jn_eq])
/-! floating point -/
theorem q_meanDirt (hN : 2000 ≤ N) (hb : bOK Θ 9 m h) (hV : OKV (S 1)) (hn : vf_n64 (FP.ddiv (FP.i2d (J (smm (S 1) 3 (mny (S 1))))) (FP.i2d (J (S 1 4))))) : P_R_meanDirt Θ N (HR Θ m S h) m = if S 1 4 ≤ 0 then some (0, HR Θ m (T13 S 1) h) else some (FP.ddiv (FP.i2d (J (smm (S 1) 3 (mny (S 1))))) (FP.i2d (J (S 1 4))), HR Θ m (T13 S 0) h) := by
  unfold P_R_meanDirt
  have hm := hV.2
  have hT : OKV (T13 S 0 1) := by rw [T13_1]; exact hV
  have e := s_sum (Θ := Θ) (m := m) (h := h) hN hb hT (i := 3) (by omega) (by omega)
  rw [T13_1] at e
  by_cases c : S 1 4 ≤ 0
  · repeat (first | (simp (disch := first | omega | exact it01) only [jn_it1, jn_it2, bo_some, bc_some, bx_inl, bx_inr, bn_some, bn_none, J_add, J_sub, J_mul, J_neg, J_0, J_lt, J_le, J_eq, J_ite, J01_0, J01_1, ite_not, ite_self, r_A0 hb, r_A1 hb, r_A2 hb, r_A3 hb, r_I4 hb, r_W4 hb, r_I5 hb, r_W5 hb, r_I6 hb, r_W6 hb, r_I7 hb, r_W7 hb, r_I8 hb, r_W8 hb, r_A9 hb, r_I10 hb, r_W10 hb, r_A11 hb, r_I12 hb, r_W12 hb, r_I13 hb, r_W13 hb, r_A14 hb, r_I15 hb, r_W15 hb, r_I16 hb, r_W16 hb, r_I17 hb, r_W17 hb, r_I18 hb, r_W18 hb, r_A19 hb, r_O hb, r_a1 hb, r_w1 hb, r_n1 hb, r_a2 hb, r_w2 hb, r_n2 hb, r_a3 hb, r_w3 hb, r_n3 hb, r_a4 hb, r_w4 hb, r_n4 hb, r_a5 hb, r_w5 hb, r_n5 hb, r_a6 hb, r_w6 hb, r_n6 hb, r_a7 hb, r_w7 hb, r_n7 hb, r_a8 hb, r_w8 hb, r_n8 hb, r_T13 hb, s_holdsT hb, s_goesT hb, s_place, s_isIn, s_isMetre, s_ofK hb, s_of0 hb, s_doc0 hb, thr, T13_1, T13_t, T13_2, up2_nj, up2_eq, up2_ne, Int.max_eq_right, ↓reduceIte, Int.reduceEq, Int.reduceNeg, Int.reduceLT, Int.reduceLE, Int.reduceAdd, Int.reduceSub, ne_eq, not_true_eq_false, not_false_eq_true, and_self, and_true, true_and, and_false, false_and, or_true, true_or, or_false, false_or, or_self, Int.reduceMul, c]) | rw [jn_eq])
  · repeat (first | (simp (disch := first | omega | exact it01) only [jn_it1, jn_it2, bo_some, bc_some, bx_inl, bx_inr, bn_some, bn_none, J_add, J_sub, J_mul, J_neg, J_0, J_lt, J_le, J_eq, J_ite, J01_0, J01_1, ite_not, ite_self, r_A0 hb, r_A1 hb, r_A2 hb, r_A3 hb, r_I4 hb, r_W4 hb, r_I5 hb, r_W5 hb, r_I6 hb, r_W6 hb, r_I7 hb, r_W7 hb, r_I8 hb, r_W8 hb, r_A9 hb, r_I10 hb, r_W10 hb, r_A11 hb, r_I12 hb, r_W12 hb, r_I13 hb, r_W13 hb, r_A14 hb, r_I15 hb, r_W15 hb, r_I16 hb, r_W16 hb, r_I17 hb, r_W17 hb, r_I18 hb, r_W18 hb, r_A19 hb, r_O hb, r_a1 hb, r_w1 hb, r_n1 hb, r_a2 hb, r_w2 hb, r_n2 hb, r_a3 hb, r_w3 hb, r_n3 hb, r_a4 hb, r_w4 hb, r_n4 hb, r_a5 hb, r_w5 hb, r_n5 hb, r_a6 hb, r_w6 hb, r_n6 hb, r_a7 hb, r_w7 hb, r_n7 hb, r_a8 hb, r_w8 hb, r_n8 hb, r_T13 hb, s_holdsT hb, s_goesT hb, s_place, s_isIn, s_isMetre, s_ofK hb, s_of0 hb, s_doc0 hb, thr, T13_1, T13_t, T13_2, up2_nj, up2_eq, up2_ne, Int.max_eq_right, ↓reduceIte, Int.reduceEq, Int.reduceNeg, Int.reduceLT, Int.reduceLE, Int.reduceAdd, Int.reduceSub, ne_eq, not_true_eq_false, not_false_eq_true, and_self, and_true, true_and, and_false, false_and, or_true, true_or, or_false, false_or, or_self, Int.reduceMul, c, e]) | rw [jn_eq])
    exact if_pos hn
theorem q_takenShare (hN : 2000 ≤ N) (hb : bOK Θ 9 m h) (hV : OKV (S 1)) (hn : vf_n32 (FP.fdiv (FP.i2f (J (60 - frm (S 1) 60))) 1114636288)) : P_R_takenShare Θ N (HR Θ m S h) m = some (FP.fdiv (FP.i2f (J (60 - frm (S 1) 60))) 1114636288, HR Θ m (T13 S 0) h) := by
  unfold P_R_takenShare
  have hT : OKV (T13 S 0 1) := by rw [T13_1]; exact hV
  have e := s_freeOnes (Θ := Θ) (m := m) (h := h) hN hb hT
  rw [T13_1] at e
  rw [r_W13 hb, bo_some, r_O hb]
  refine (congrArg (fun q => bc q _) e).trans ?_
  rw [bc_some, J_sub]
  exact if_pos hn
end R6
