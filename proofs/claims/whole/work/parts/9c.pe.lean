/-! the class reads commands, on -/
section PE
variable {Θ : mW} {N t u q v : Nat} {n : Int} {τ : Int → Int} {T U : Nat → Int → Int} {h : mH}
theorem t_match_L (hN : 2000 ≤ N) {i : Nat} (hi : i < 12) (hn : n ≤ 60) {K : mH → Int32 → Option (Int32 × mH)} : ∀ (r j f : Nat) (p : Int) (ns : List Int) (T U : Nat → Int → Int) (h : mH), CT Θ t u q v n τ T U h → kept T U ns → ns.length + c35 ((fpat i).drop j) ≤ 3 → 0 ≤ p → p ≤ n → (0 ≤ T 0 2 ∧ T 0 2 ≤ 1000) → j + r = mLen i → r < f → ∃ h2 T2 U2, CT Θ t u q v n τ T2 U2 h2 ∧ Nx Θ h h2 (TU t u) 0 0 ∧ same3 T T2 ∧ kept T2 U2 (mat τ n ((fpat i).drop j) p ns).2.2 ∧ ((mat τ n ((fpat i).drop j) p ns).2.1 = true → P_T_matches_12 Θ N K t i f h (J p) (J j) = K h2 (J (mat τ n ((fpat i).drop j) p ns).1) ∧ T2 0 2 = T 0 2) ∧ ((mat τ n ((fpat i).drop j) p ns).2.1 = false → P_T_matches_12 Θ N K t i f h (J p) (J j) = some (J 0, h2) ∧ T2 0 2 = max (T 0 2) (mat τ n ((fpat i).drop j) p ns).1) := by
  intro r
  have ml := mLen_lt ⟨i, by omega⟩
  simp only at ml
  have hf := f_w hi
  induction r with
  | zero =>
    intro j f p ns T U h c k k3 p0 p1 t2 hj hf2
    obtain ⟨f, rfl⟩ : ∃ n', f = n' + 1 := ⟨f - 1, by omega⟩
    have ed : (fpat i).drop j = [] := List.drop_eq_nil_of_le (by unfold fpat; unfold mLen at hj; omega)
    rw [ed, mat]
    refine ⟨h, T, U, c, Nx.refl, ⟨rfl, rfl, rfl⟩, k, fun _ => ⟨?_, rfl⟩, fun z => by cases z⟩
    rw [E_T_matches_12, B_T_matches_12, hf.1, bo_some, hf.2.1, bo_some, f_len hi, bc_some, if_pos (by rw [J_le] <;> omega)]
  | succ r ih =>
    intro j f p ns T U h c k k3 p0 p1 t2 hj hf2
    obtain ⟨f, rfl⟩ : ∃ n', f = n' + 1 := ⟨f - 1, by omega⟩
    have ed := fpat_drop (i := i) (j := j) (by omega)
    have hc : mLet i j < 128 := let_lt' (by omega)
    have e1 : (j : Int) + 1 = ((j + 1 : Nat) : Int) := by omega
    have ec : P_ST_charAt Θ N h (14 + i) (J j) = some (J (mLet i j), h) := by
      have := f_char (Θ := Θ) (N := N) (h := h) hi (j := (j : Int)) (by omega) (by omega)
      rwa [Int.toNat_natCast] at this
    rw [ed, c35] at k3
    rw [ed]
    generalize mLet i j = a at hc ec k3 ⊢
    rw [E_T_matches_12, B_T_matches_12, hf.1, bo_some, hf.2.1, bo_some, f_len hi, bc_some, if_neg (by rw [J_le] <;> omega), bo_some, hf.2.1, bo_some, ec, bc_some, ct_O c, mat]
    unfold P_T_passSign
    have stuck : ∀ (h1 : mH) (T1 U1 : Nat → Int → Int) (ns : List Int), CT Θ t u q v n τ T1 U1 h1 → Nx Θ h h1 (TU t u) 0 0 → same3 T T1 → T1 0 2 = T 0 2 → kept T1 U1 ns → ∃ h2 T2 U2, CT Θ t u q v n τ T2 U2 h2 ∧ Nx Θ h h2 (TU t u) 0 0 ∧ same3 T T2 ∧ kept T2 U2 ns ∧ ((bo (rI Θ h1 7 t 2) (fun v11 => (bo (wF Θ h1 7 t 2 (.int (mxI v11 (J p)))) (fun h12 => (some ((J 0), h12)))))) : Option (Int32 × mH)) = some (J 0, h2) ∧ T2 0 2 = max (T 0 2) p := by
      intro h1 T1 U1 ns c1 x1 s1 e2 k1
      obtain ⟨c2, x2⟩ := ct_setT (i := 2) (w := max (T 0 2) p) c1 (by omega)
      refine ⟨_, _, _, c2, (x1.trans x2).up (Nat.le_refl 0) (Nat.le_refl 0), ⟨by rw [up2_nj (by omega)]; exact s1.1, by rw [up2_nj (by omega)]; exact s1.2.1, by rw [up2_nj (by omega)]; exact s1.2.2⟩, ⟨by rw [up2_nj (by omega)]; exact k1.1, k1.2⟩, ?_, up2_eq⟩
      rw [ct_2 c1, bo_some, e2, J_mx (by omega) (by omega) (by omega) (by omega), ct_w2 c1, bo_some]
    by_cases z35 : a = 35
    · subst z35
      rw [if_pos rfl] at k3
      obtain ⟨h1, T1, U1, b1, b2, b3, b4, b5, b6⟩ := t_passNumber (N := N) hN c hn p0 (by omega) k (by omega)
      have g := nmv_ge (τ := τ) (n := n) 3 0 p
      rw [if_pos (show J ((35 : Nat) : Int) = J 35 from rfl), ct_O c, b1, bc_some, bc_some, if_pos rfl]
      by_cases d : (nmv τ n 3 0 p).2 = p
      · rw [if_pos d] at b6
        rw [if_pos d, if_pos d, if_pos rfl]
        obtain ⟨h2, T2, U2, w1, w2, w3, w4, w5, w6⟩ := stuck h1 T1 U1 ns b2 b3 b4 b5 b6
        exact ⟨h2, T2, U2, w1, w2, w3, w4, (fun z => by cases z), fun _ => ⟨w5, w6⟩⟩
      · rw [if_neg d] at b6
        rw [if_neg d, if_neg d, if_neg (show ¬ J (nmv τ n 3 0 p).2 = J (-1) by rw [J_eq] <;> omega), J_add, e1]
        obtain ⟨h2, T2, U2, w1, w2, w3, w4, w5, w6⟩ := ih (j + 1) f (nmv τ n 3 0 p).2 _ T1 U1 h1 b2 b6 (by rw [List.length_append, List.length_singleton]; omega) (by omega) (g.2.2 p1) (by rw [b5]; exact t2) (by omega) (by omega)
        rw [b5] at w5 w6
        exact ⟨h2, T2, U2, w1, (b3.trans w2).up (Nat.le_refl 0) (Nat.le_refl 0), ⟨w3.1.trans b4.1, w3.2.1.trans b4.2.1, w3.2.2.trans b4.2.2⟩, w4, w5, w6⟩
    · have n35 : ¬ J (a : Int) = J 35 := by rw [J_eq] <;> omega
      rw [if_neg z35] at k3
      rw [if_neg n35, if_neg z35, ct_O c, t_isAt c hn (by omega) (by omega) (by omega) (by omega), bc_some]
      by_cases d : p < n ∧ τ p = a
      · rw [if_pos d, if_pos (show 0 ≤ p ∧ p < n ∧ τ p = (a : Int) from ⟨p0, d⟩), if_neg (show ¬ J 1 = (0 : Int32) by decide), J_add, bc_some, if_neg (show ¬ J (p + 1) = J (-1) by rw [J_eq] <;> omega), J_add, e1]
        exact ih (j + 1) f (p + 1) ns T U h c k (by omega) (by omega) (by omega) t2 (by omega) (by omega)
      · rw [if_neg d, if_neg (show ¬ (0 ≤ p ∧ p < n ∧ τ p = (a : Int)) from fun z => d z.2), if_pos (show J 0 = (0 : Int32) from rfl)]
        by_cases z45 : a = 45
        · subst z45
          rw [if_pos (show J ((45 : Nat) : Int) = J 45 from rfl), if_pos rfl, bc_some, if_neg (show ¬ J p = J (-1) by rw [J_eq] <;> omega), J_add, e1]
          exact ih (j + 1) f p ns T U h c k (by omega) p0 p1 t2 (by omega) (by omega)
        · have n45 : ¬ J (a : Int) = J 45 := by rw [J_eq] <;> omega
          rw [if_neg n45, if_neg z45, bc_some, if_pos rfl]
          obtain ⟨h2, T2, U2, w1, w2, w3, w4, w5, w6⟩ := stuck h T U ns c Nx.refl ⟨rfl, rfl, rfl⟩ rfl k
          exact ⟨h2, T2, U2, w1, w2, w3, w4, (fun z => by cases z), fun _ => ⟨w5, w6⟩⟩
theorem t_matches (hN : 2000 ≤ N) {i : Nat} (hi : i < 12) (hn : n ≤ 60) (c : CT Θ t u q v n τ T U h) (p0 : 0 ≤ T 0 1) (p1 : T 0 1 ≤ n) (t2 : 0 ≤ T 0 2 ∧ T 0 2 ≤ 1000) : ∃ h2 T2 U2, CT Θ t u q v n τ T2 U2 h2 ∧ Nx Θ h h2 (TU t u) 0 0 ∧ same3 T T2 ∧ kept T2 U2 (mat τ n (fpat i) (T 0 1) []).2.2 ∧ ((mat τ n (fpat i) (T 0 1) []).2.1 = true → P_T_matches Θ N h t i = some (J 1, h2) ∧ T2 0 2 = (mat τ n (fpat i) (T 0 1) []).1) ∧ ((mat τ n (fpat i) (T 0 1) []).2.1 = false → P_T_matches Θ N h t i = some (J 0, h2) ∧ T2 0 2 = max (T 0 2) (mat τ n (fpat i) (T 0 1) []).1) := by
  have ml := mLen_lt ⟨i, by omega⟩
  have c3 := c35_3 ⟨i, hi⟩
  simp only at ml c3
  obtain ⟨c1, x1⟩ := ct_setT (i := 6) (w := 0) c (by omega)
  obtain ⟨h2, T2, U2, w1, w2, w3, w4, w5, w6⟩ := t_match_L (Θ := Θ) (N := N) (K := fun h13 u14 => (bo (wF Θ h13 7 t 2 (.int u14)) (fun h15 => (some ((J 1), h15))))) hN hi hn (mLen i) 0 N (T 0 1) [] (up2 T 0 6 0) U _ c1 ⟨by rw [up2_eq]; rfl, fun k x hx => by simp at hx⟩ (by rw [List.drop_zero]; simpa using c3) p0 p1 (by rw [up2_nj (by omega)]; exact t2) (by omega) (by omega)
  rw [List.drop_zero] at w4 w5 w6
  have s3 : same3 T T2 := ⟨w3.1.trans (up2_nj (by omega)), w3.2.1.trans (up2_nj (by omega)), w3.2.2.trans (up2_nj (by omega))⟩
  have e2 : up2 T 0 6 0 0 2 = T 0 2 := up2_nj (by omega)
  have hP : P_T_matches Θ N h t i = P_T_matches_12 Θ N (fun h13 u14 => (bo (wF Θ h13 7 t 2 (.int u14)) (fun h15 => (some ((J 1), h15))))) t i N (BK Θ shT t (up2 T 0 6 0) h) (J (T 0 1)) (J ((0 : Nat) : Int)) := by
    unfold P_T_matches
    rw [ct_1 c, bo_some, ct_w6 c, bo_some]
    rfl
  rw [hP]
  cases hm : (mat τ n (fpat i) (T 0 1) []).2.1 with
  | true =>
    obtain ⟨a, b⟩ := w5 hm
    obtain ⟨c2, x2⟩ := ct_setT (i := 2) (w := (mat τ n (fpat i) (T 0 1) []).1) w1 (by omega)
    refine ⟨_, _, _, c2, ((x1.trans w2).trans x2).up (Nat.le_refl 0) (Nat.le_refl 0), ⟨by rw [up2_nj (by omega)]; exact s3.1, by rw [up2_nj (by omega)]; exact s3.2.1, by rw [up2_nj (by omega)]; exact s3.2.2⟩, ⟨by rw [up2_nj (by omega)]; exact w4.1, w4.2⟩, fun _ => ⟨?_, up2_eq⟩, fun z => by cases z⟩
    rw [a, ct_w2 w1, bo_some]
  | false =>
    obtain ⟨a, b⟩ := w6 hm
    rw [e2] at b
    exact ⟨h2, T2, U2, w1, (x1.trans w2).up (Nat.le_refl 0) (Nat.le_refl 0), s3, w4, (fun z => by cases z), fun _ => ⟨a, b⟩⟩
/-- a separator or the end -/
def sepk (τ : Int → Int) (n e : Int) : Prop := n ≤ e ∨ τ e = 59
theorem t_sep (c : CT Θ t u q v n τ T U h) (hn : n ≤ 60) (t0 : 0 ≤ T 0 2) (t1 : T 0 2 ≤ 1000) : (¬ sepk τ n (T 0 2) → P_T_passSeparator Θ N h t = some (J 0, h)) ∧ (sepk τ n (T 0 2) → ∃ h2 T2, P_T_passSeparator Θ N h t = some (J 1, h2) ∧ CT Θ t u q v n τ T2 U h2 ∧ Nx Θ h h2 (TU t u) 0 0 ∧ T2 0 1 = T 0 2 + 1 ∧ T2 0 3 = T 0 3 + 1 ∧ T2 0 4 = T 0 4 ∧ T2 0 2 = T 0 2 ∧ T2 0 6 = T 0 6) := by
  have n0 := sb_0 c.2.2.1
  obtain ⟨c1, x1⟩ := ct_setT (i := 1) (w := T 0 2 + 1) c (by omega)
  obtain ⟨c2, x2⟩ := ct_setT (i := 3) (w := T 0 3 + 1) c1 (by omega)
  have fin : (bo (rI Θ h 7 t 2) (fun v7 => (bo (wF Θ h 7 t 1 (.int (v7 + (J 1)))) (fun h8 => (bo (rI Θ h8 7 t 3) (fun v9 => (bo (wF Θ h8 7 t 3 (.int (v9 + (J 1)))) (fun h10 => (some ((J 1), h10))))))))) : Option (Int32 × mH)) = some (J 1, BK Θ shT t (up2 (up2 T 0 1 (T 0 2 + 1)) 0 3 (T 0 3 + 1)) (BK Θ shT t (up2 T 0 1 (T 0 2 + 1)) h)) := by
    rw [ct_2 c, bo_some, J_add, ct_w1 c, bo_some, ct_3 c1, bo_some, up2_nj (by omega), J_add, ct_w3 c1, bo_some]
  unfold P_T_passSeparator
  rw [ct_2 c, bo_some, ct_q c, bo_some, sb_O c.2.2.1, ct_len c, bc_some, jn_eq]
  have yes : ∃ h2 T2, some (J 1, BK Θ shT t (up2 (up2 T 0 1 (T 0 2 + 1)) 0 3 (T 0 3 + 1)) (BK Θ shT t (up2 T 0 1 (T 0 2 + 1)) h)) = some (J 1, h2) ∧ CT Θ t u q v n τ T2 U h2 ∧ Nx Θ h h2 (TU t u) 0 0 ∧ T2 0 1 = T 0 2 + 1 ∧ T2 0 3 = T 0 3 + 1 ∧ T2 0 4 = T 0 4 ∧ T2 0 2 = T 0 2 ∧ T2 0 6 = T 0 6 :=
    ⟨_, _, rfl, c2, (x1.trans x2).up (Nat.le_refl 0) (Nat.le_refl 0), by rw [up2_nj (by omega), up2_eq], up2_eq, by rw [up2_nj (by omega), up2_nj (by omega)], by rw [up2_nj (by omega), up2_nj (by omega)], by rw [up2_nj (by omega), up2_nj (by omega)]⟩
  by_cases d : n ≤ T 0 2
  · rw [if_pos (by rw [J_le] <;> omega)]
    dsimp only
    rw [fin]
    exact ⟨fun z => absurd (Or.inl d) z, fun _ => yes⟩
  · have r := sb_rng c.2.2.1 (j := T 0 2) t0 (by omega)
    rw [if_neg (by rw [J_le] <;> omega), ct_q c, bo_some, ct_2 c, bo_some, sb_O c.2.2.1, sb_charAt c.2.2.1 t0 (by omega), bc_some]
    by_cases f : τ (T 0 2) = 59
    · rw [if_pos (by rw [f])]
      dsimp only
      rw [fin]
      exact ⟨fun z => absurd (Or.inr f) z, fun _ => yes⟩
    · rw [if_neg (by rw [J_eq] <;> omega)]
      exact ⟨fun _ => rfl, fun z => absurd z (fun z => z.elim d f)⟩
/-- what reading a command leaves -/
def rdS (Θ : mW) (τ : Int → Int) (n : Int) (T T2 U2 : Nat → Int → Int) (Q : Int × Option (Nat × List Int)) (p : Option (Int32 × mH)) (h2 : mH) : Prop :=
  (T2 0 2 = Q.1 ∧ ((Q.2 = none ∨ ¬ sepk τ n Q.1) → p = some (J 0, h2)) ∧ (∀ k ns, Q.2 = some (k, ns) → sepk τ n Q.1 → p = some (J 1, h2) ∧ T2 0 1 = Q.1 + 1 ∧ T2 0 3 = T 0 3 + 1 ∧ T2 0 4 = mwad Θ k ∧ kept T2 U2 ns))
theorem oAll_k {k : Nat} (hk : k < 12) : oAll (J k) = some k := by
  unfold oAll
  rw [if_pos (inOK (n := 12) (by omega) (by omega) (by omega)), J_nat (by omega) (by omega), Int.toNat_natCast]
theorem t_next_L (hN : 2000 ≤ N) (hn : n ≤ 60) {T0 : Nat → Int → Int} : ∀ (r i f : Nat) (T U : Nat → Int → Int) (h : mH), CT Θ t u q v n τ T U h → T 0 1 = T0 0 1 → T 0 3 = T0 0 3 → 0 ≤ T 0 1 → T 0 1 ≤ n → (0 ≤ T 0 2 ∧ T 0 2 ≤ 1000) → i + r = 12 → r < f → ∃ h2 T2 U2, CT Θ t u q v n τ T2 U2 h2 ∧ Nx Θ h h2 (TU t u) 0 0 ∧ rdS Θ τ n T0 T2 U2 (rdn τ n (T 0 1) r i (T 0 2)) (P_T_readNext_10 Θ N (fun h11 => (some ((J 0), h11))) t f h (J i)) h2 := by
  intro r
  induction r with
  | zero =>
    intro i f T U h c e1 e3 p0 p1 t2 hi hf
    obtain ⟨f, rfl⟩ : ∃ n', f = n' + 1 := ⟨f - 1, by omega⟩
    rw [E_T_readNext_10, B_T_readNext_10, if_pos (by rw [J_le] <;> omega), rdn]
    exact ⟨h, T, U, c, Nx.refl, rfl, fun _ => rfl, fun k ns z => by cases z⟩
  | succ r ih =>
    intro i f T U h c e1 e3 p0 p1 t2 hi hf
    obtain ⟨f, rfl⟩ : ∃ n', f = n' + 1 := ⟨f - 1, by omega⟩
    obtain ⟨h1, T1, U1, b1, b2, b3, b4, b5, b6⟩ := t_matches (N := N) hN (i := i) (by omega) hn c p0 p1 t2
    have gn := mat_n (τ := τ) (n := n) (fpat i) (T 0 1) [] p1
    have gg := mat_ge (τ := τ) (n := n) (fpat i) (T 0 1) []
    rw [E_T_readNext_10, B_T_readNext_10, if_neg (by rw [J_le] <;> omega), oAll_k (by omega), bo_some, ct_O c, rdn]
    cases hm : (mat τ n (fpat i) (T 0 1) []).2.1 with
    | false =>
      obtain ⟨a1, a2⟩ := b6 hm
      obtain ⟨h2, T2, U2, w1, w2, w3⟩ := ih (i + 1) f T1 U1 h1 b1 (b3.1.trans e1) (b3.2.1.trans e3) (by rw [b3.1]; exact p0) (by rw [b3.1]; exact p1) (by rw [a2]; omega) (by omega) (by omega)
      rw [b3.1, a2] at w3
      rw [a1, bc_some, if_pos (show J 0 = (0 : Int32) from rfl), J_add, show (i : Int) + 1 = ((i + 1 : Nat) : Int) by omega, if_neg (by simp)]
      exact ⟨h2, T2, U2, w1, (b2.trans w2).up (Nat.le_refl 0) (Nat.le_refl 0), w3⟩
    | true =>
      obtain ⟨a1, a2⟩ := b5 hm
      obtain ⟨c4, x4⟩ := ct_setT (i := 4) (w := (mwad Θ i : Nat)) b1 (by omega)
      have e42 : up2 T1 0 4 (mwad Θ i : Nat) 0 2 = (mat τ n (fpat i) (T 0 1) []).1 := by rw [up2_nj (by omega)]; exact a2
      obtain ⟨s1, s2⟩ := t_sep (N := N) c4 hn (by rw [e42]; omega) (by rw [e42]; omega)
      rw [e42] at s1 s2
      rw [a1, bc_some, if_neg (show ¬ J 1 = (0 : Int32) by decide), bo_some, ct_w4 b1, bo_some, ct_O c4, if_pos rfl]
      by_cases d : sepk τ n (mat τ n (fpat i) (T 0 1) []).1
      · obtain ⟨h2, T2, w1, w2, w3, w4, w5, w6, w7, w8⟩ := s2 d
        rw [w1, bc_some, if_pos (show J 1 = J 0 ∨ J 1 = J 1 from Or.inr rfl)]
        refine ⟨h2, T2, U1, w2, ((b2.trans x4).trans w3).up (Nat.le_refl 0) (Nat.le_refl 0), w7, fun z => ?_, fun k ns z _ => ?_⟩
        · rcases z with z | z
          · cases z
          · exact absurd d z
        · cases z
          refine ⟨rfl, w4, ?_, ?_, ?_, b4.2⟩
          · rw [w5, up2_nj (by omega), b3.2.1, e3]
          · rw [w6, up2_eq]
          · rw [w8, up2_nj (by omega)]; exact b4.1
      · rw [s1 d, bc_some, if_pos (show J 0 = J 0 ∨ J 0 = J 1 from Or.inl rfl)]
        exact ⟨_, _, U1, c4, (b2.trans x4).up (Nat.le_refl 0) (Nat.le_refl 0), e42, fun _ => rfl, fun k ns _ z => absurd z d⟩
theorem t_readNext (hN : 2000 ≤ N) (hn : n ≤ 60) (c : CT Θ t u q v n τ T U h) (p0 : 0 ≤ T 0 1) (p1 : T 0 1 ≤ n) : ∃ h2 T2 U2, CT Θ t u q v n τ T2 U2 h2 ∧ Nx Θ h h2 (TU t u) 0 0 ∧ rdS Θ τ n T T2 U2 (cmd τ n (T 0 1)) (P_T_readNext Θ N h t) h2 := by
  obtain ⟨c1, x1⟩ := ct_setT (i := 2) (w := T 0 1) c (by omega)
  have e1 : up2 T 0 2 (T 0 1) 0 1 = T 0 1 := up2_nj (by omega)
  have e2 : up2 T 0 2 (T 0 1) 0 2 = T 0 1 := up2_eq
  obtain ⟨h2, T2, U2, w1, w2, w3⟩ := t_next_L (Θ := Θ) (N := N) (T0 := T) hN hn 12 0 N (up2 T 0 2 (T 0 1)) U _ c1 e1 (up2_nj (by omega)) (by rw [e1]; exact p0) (by rw [e1]; exact p1) (by rw [e2]; omega) (by omega) (by omega)
  rw [e1, e2, rdn_cmd p0] at w3
  refine ⟨h2, T2, U2, w1, (x1.trans w2).up (Nat.le_refl 0) (Nat.le_refl 0), ?_⟩
  unfold P_T_readNext
  rw [ct_1 c, bo_some, ct_w2 c, bo_some]
  exact w3
theorem t_rewind (c : CT Θ t u q v n τ T U h) : ∃ h2 T2, P_T_rewind Θ N h t = some ((), h2) ∧ CT Θ t u q v n τ T2 U h2 ∧ Nx Θ h h2 (TU t u) 0 0 ∧ T2 0 1 = 0 ∧ T2 0 3 = 0 ∧ T2 0 2 = T 0 2 := by
  obtain ⟨c1, x1⟩ := ct_setT (i := 1) (w := 0) c (by omega)
  obtain ⟨c2, x2⟩ := ct_setT (i := 3) (w := 0) c1 (by omega)
  refine ⟨_, _, ?_, c2, (x1.trans x2).up (Nat.le_refl 0) (Nat.le_refl 0), by rw [up2_nj (by omega), up2_eq], up2_eq, by rw [up2_nj (by omega), up2_nj (by omega)]⟩
  unfold P_T_rewind
  rw [ct_w1 c, bo_some, ct_w3 c1, bo_some]
end PE
