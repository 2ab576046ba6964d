/-! the law's own texts lie apart -/
section MI9
variable {Θ : mW} {U : State} {H : Heap}
theorem tx_key : ∀ i : Fin 9, ∀ j : Fin 9, Int32.ofNat (lTx.getD i []).length = Int32.ofNat (lTx.getD j []).length → ((lTx.getD i []).length ≠ 0 → nI ((lTx.getD i []).getD 0 0) = nI ((lTx.getD j []).getD 0 0)) → i = j := by decide +kernel
theorem tx_pos : ∀ i : Fin 9, ∀ j : Fin 9, Int32.ofNat (lTx.getD i []).length = Int32.ofNat (lTx.getD j []).length → (lTx.getD i []).length ≠ 0 → (lTx.getD j []).length ≠ 0 := by decide +kernel
theorem of_OFv {o nm d : String} {v w : Value} {a : Nat} {A : Nat → Prop} (h1 : va_OF o nm d v a A U H) (h2 : va_OF o nm d w a A U H) : v = w := by
  obtain ⟨cf, k, i, f, cell, p1, p2, p3, p4, p5, p6⟩ := h1
  obtain ⟨cf', k', i', f', cell', q1, q2, q3, q4, q5, q6⟩ := h2
  cases p1.symm.trans q1
  cases p3.symm.trans q3
  exact Option.some.inj (p5.symm.trans q5)
theorem mI9_of (hK : mKS Θ U H) (hB : mwB Θ = H.size) : mI9 Θ := by
  have rows : ∀ j : Nat, j < 9 → va_T .byte (mwad Θ (110 + j)) (lTx.getD j []).length (fun i : Nat => Value.int (nI ((lTx.getD j []).getD i 0))) (mwA Θ) U H := fun j hj => hK.2.2.1 _ (mTXT_ok Θ j hj).2.2.1
  have vals : ∀ j : Nat, j < 9 → va_OF "java/lang/String" "value" "[B" (.ref (mwad Θ (110 + j))) (mwad Θ (90 + j)) (mwA Θ) U H := fun j hj => hK.2.2.2.1 _ (mTXT_ok Θ j hj).2.1
  have inj : ∀ i j : Nat, i < 9 → j < 9 → mwad Θ (110 + i) = mwad Θ (110 + j) → i = j := fun i j hi hj e => by
    obtain ⟨c1, a1, -, -, -, z1, s1, -⟩ := rows i hi
    obtain ⟨c2, a2, -, -, -, z2, s2, -⟩ := rows j hj
    rw [e] at a1
    cases a1.symm.trans a2
    have k := tx_key ⟨i, hi⟩ ⟨j, hj⟩ (z1.symm.trans z2) (fun n0 => by
      have n1 : (lTx.getD j []).length ≠ 0 := tx_pos ⟨i, hi⟩ ⟨j, hj⟩ (z1.symm.trans z2) n0
      have e1 := s1 0 (Nat.pos_of_ne_zero n0)
      have e2 := s2 0 (Nat.pos_of_ne_zero n1)
      have e3 := Option.some.inj (e1.symm.trans e2)
      injection e3)
    exact congrArg Fin.val k
  refine ⟨fun i j hi hj e => ?_, inj, fun j hj => ⟨?_, ?_⟩⟩
  · have h1 := vals i hi
    have h2 := vals j hj
    rw [e] at h1
    have h3 := of_OFv h1 h2
    injection h3 with h4
    exact inj i j hi hj h4
  · obtain ⟨_, _, _, _, cell, _, _, p3, _⟩ := vals j hj
    rw [hB]
    exact (Array.getElem?_eq_some_iff.mp p3).1
  · obtain ⟨cell, a1, _⟩ := rows j hj
    rw [hB]
    exact (Array.getElem?_eq_some_iff.mp a1).1
end MI9
