/-! the class reads commands -/
def shT : List Sh := [.inl (7, [some none, none, none, none, some none, some none, none])]
def shN : List Sh := [.inr (.inl (0, 3))]
def CT (Θ : mW) (t u q v : Nat) (n : Int) (τ : Int → Int) (T U : Nat → Int → Int) (h : mH) : Prop := HB Θ shT t T h ∧ HB Θ shN u U h ∧ SBs Θ q v n τ h ∧ (T 0 0 = q ∧ T 0 5 = u) ∧ (t ≠ u ∧ t ≠ q ∧ t ≠ v ∧ u ≠ q ∧ u ≠ v)
section PC0
variable {Θ : mW} {N : Nat} {h : mH}
theorem st_charAt {s w len : Nat} {f : Nat → Nat} (h1 : oS s = some s) (h2 : oC s = some 0) (h3 : oV s = some w) (h4 : oBn w = some (len, f)) (hl : len ≤ 1000) (h5 : ∀ j, j < len → f j < 128) {j : Int} (j0 : 0 ≤ j) (j1 : j < len) : P_ST_charAt Θ N h s (J j) = some (J (f j.toNat), h) := by
  have b := h5 j.toNat (by omega)
  have e8 : oB8 w (J j) = some (J (f j.toNat)) := by
    unfold oB8
    rw [h4, bo_some, if_pos (inOK j0 (n := len) j1 (by omega)), J_nI, J_nat j0 (by omega)]
  have el : oBl w = some (J len) := by
    unfold oBl
    rw [h4, bo_some, J_ofNat]
  unfold P_ST_charAt P_ST_isLatin1 P_S1_charAt P_ST_checkIndex P_PR_checkIndex
  rw [h1, bo_some, if_neg (show ¬ (1 : Int32) = 0 by decide), h2, bo_some, if_pos rfl, bc_some, if_neg (show ¬ J 1 = (0 : Int32) by decide), h3, bo_some, el, bo_some, if_neg (by rw [J_lt0] <;> omega), if_pos (by rw [J_lt] <;> omega), bc_some, bc_some, e8, bo_some, b_at' (by omega) (by omega), J_chr (by omega) (by omega), if_pos (chr_rng (by omega) (by omega)), bc_some, if_pos (chr_rng (by omega) (by omega))]
theorem st_len {s w len : Nat} {f : Nat → Nat} (h1 : oS s = some s) (h2 : oC s = some 0) (h3 : oV s = some w) (h4 : oBn w = some (len, f)) : P_ST_length Θ N h s = some (J len, h) := by
  have el : oBl w = some (J len) := by
    unfold oBl
    rw [h4, bo_some, J_ofNat]
  unfold P_ST_length P_ST_coder
  rw [h3, bo_some, el, bo_some, h1, bo_some, if_neg (show ¬ (1 : Int32) = 0 by decide), h2, bo_some, if_pos (by decide), bc_some]
  exact congrArg (fun z => some (z, h)) (sh_r (J len))
theorem let_lt : ∀ i : Fin 13, ((mTx.getD i []).all (fun c => decide (c < 128))) = true := by decide +kernel
theorem let_lt' {i j : Nat} (hi : i < 13) : mLet i j < 128 := by
  have a := let_lt ⟨i, hi⟩
  rw [List.all_eq_true] at a
  unfold mLet
  rw [List.getD_eq_getElem?_getD]
  by_cases c : j < (mTx.getD i []).length
  · rw [List.getElem?_eq_getElem c]
    have := a _ (List.getElem_mem c)
    simpa using this
  · rw [List.getElem?_eq_none (by omega)]
    simp
theorem f_w {i : Nat} (hi : i < 12) : oP i = some (14 + i) ∧ oS (14 + i) = some (14 + i) ∧ oC (14 + i) = some 0 ∧ oV (14 + i) = some (26 + i) ∧ oBn (26 + i) = some (mLen i, mLet i) := by
  have : i = 0 ∨ i = 1 ∨ i = 2 ∨ i = 3 ∨ i = 4 ∨ i = 5 ∨ i = 6 ∨ i = 7 ∨ i = 8 ∨ i = 9 ∨ i = 10 ∨ i = 11 := by omega
  rcases this with rfl | rfl | rfl | rfl | rfl | rfl | rfl | rfl | rfl | rfl | rfl | rfl <;> exact ⟨rfl, rfl, rfl, rfl, rfl⟩
theorem mLen_lt : ∀ i : Fin 13, mLen i ≤ 100 := by decide +kernel
theorem f_len {i : Nat} (hi : i < 12) : P_ST_length Θ N h (14 + i) = some (J (mLen i), h) := by
  obtain ⟨-, a, b, c, d⟩ := f_w hi
  exact st_len a b c d
theorem f_char {i : Nat} (hi : i < 12) {j : Int} (j0 : 0 ≤ j) (j1 : j < mLen i) : P_ST_charAt Θ N h (14 + i) (J j) = some (J (mLet i j.toNat), h) := by
  obtain ⟨-, a, b, c, d⟩ := f_w hi
  have := mLen_lt ⟨i, by omega⟩
  exact st_charAt a b c d (by simpa using Nat.le_trans this (by omega)) (fun j _ => let_lt' (by omega)) j0 j1
theorem drop_getD (l : List Nat) (j : Nat) (h : j < l.length) : l.drop j = l.getD j 0 :: l.drop (j + 1) := by
  rw [List.getD_eq_getElem?_getD, List.getElem?_eq_getElem h]
  exact List.drop_eq_getElem_cons h
theorem fpat_drop {i j : Nat} (h : j < mLen i) : (fpat i).drop j = mLet i j :: (fpat i).drop (j + 1) := by
  unfold mLen at h
  exact drop_getD _ j h
def c35 : List Nat → Nat
  | [] => 0
  | c :: cs => (if c = 35 then 1 else 0) + c35 cs
theorem c35_3 : ∀ i : Fin 12, c35 (fpat i) ≤ 3 := by decide +kernel
end PC0
section PC
variable {Θ : mW} {N t u q v : Nat} {n : Int} {τ : Int → Int} {T U : Nat → Int → Int} {h : mH}
theorem sb_O (hs : SBs Θ q v n τ h) {ρ : Type} {p : Option ρ} : gO Θ h 8 q p = p := by
  obtain ⟨B, A, cap, b1, b2, b3, b4, b5, b6, b7⟩ := hs
  exact b_O8 b1
theorem sb_0 (hs : SBs Θ q v n τ h) : 0 ≤ n := by
  obtain ⟨B, A, cap, b1, b2, b3, b4, b5, b6, b7⟩ := hs
  omega
theorem sb_rng (hs : SBs Θ q v n τ h) {j : Int} (j0 : 0 ≤ j) (j1 : j < n) : 0 ≤ τ j ∧ τ j < 128 := by
  obtain ⟨B, A, cap, b1, b2, b3, b4, b5, b6, b7⟩ := hs
  rw [← b7 j j0 j1]
  exact b6 j j0 (by omega)
theorem sb_nx {h2 : mH} {P : Nat → Prop} {c z : Nat} (hs : SBs Θ q v n τ h) (a : Nx Θ h h2 P c z) (hq : ¬ P q) (hv : ¬ P v) : SBs Θ q v n τ h2 := by
  obtain ⟨B, A, cap, b1, b2, b3, b4, b5, b6, b7⟩ := hs
  refine ⟨B, A, cap, b1.nx a (fun x x1 x2 => ?_), b2.nx a (fun x x1 x2 => ?_), b3, b4, b5, b6, b7⟩
  · have : x = q := by simp [shB] at x2; omega
    rw [this]; exact hq
  · have : x = v := by simp at x2; omega
    rw [this]; exact hv
theorem ct_q (c : CT Θ t u q v n τ T U h) : rA Θ h 7 t 0 = some q := by
  have := HB.xB c.1 (i := 0) (ci := 7) (k := 0) rfl rfl
  rw [show T 0 ((0 : Nat) : Int) = q from c.2.2.2.1.1, Int.toNat_natCast] at this
  exact this
theorem ct_u (c : CT Θ t u q v n τ T U h) : rA Θ h 7 t 5 = some u := by
  have := HB.xB c.1 (i := 0) (ci := 7) (k := 5) rfl rfl
  rw [show T 0 ((5 : Nat) : Int) = u from c.2.2.2.1.2, Int.toNat_natCast] at this
  exact this
theorem ct_1 (c : CT Θ t u q v n τ T U h) : rI Θ h 7 t 1 = some (J (T 0 1)) := HB.xI c.1 (i := 0) (ci := 7) (k := 1) rfl rfl
theorem ct_2 (c : CT Θ t u q v n τ T U h) : rI Θ h 7 t 2 = some (J (T 0 2)) := HB.xI c.1 (i := 0) (ci := 7) (k := 2) rfl rfl
theorem ct_3 (c : CT Θ t u q v n τ T U h) : rI Θ h 7 t 3 = some (J (T 0 3)) := HB.xI c.1 (i := 0) (ci := 7) (k := 3) rfl rfl
theorem ct_6 (c : CT Θ t u q v n τ T U h) : rI Θ h 7 t 6 = some (J (T 0 6)) := HB.xI c.1 (i := 0) (ci := 7) (k := 6) rfl rfl
theorem ct_O (c : CT Θ t u q v n τ T U h) {ρ : Type} {p : Option ρ} : gO Θ h 7 t p = p := HB.xO c.1 (i := 0) rfl
theorem ct_n (c : CT Θ t u q v n τ T U h) {x : Int} (x0 : 0 ≤ x) (x1 : x < 3) : aR Θ h 0 u (J x) = some (J (U 0 x)) := HB.xR c.2.1 (i := 0) (k := 3) rfl (by omega) x0 x1
theorem ct_len (c : CT Θ t u q v n τ T U h) : P_SB_length Θ N h q = some (J n, h) := sb_length c.2.2.1
abbrev TU (t u : Nat) : Nat → Prop := fun x => x = t ∨ x = u
theorem ct_setT {i w : Int} (c : CT Θ t u q v n τ T U h) (hi : i ≠ 0 ∧ i ≠ 5) : CT Θ t u q v n τ (up2 T 0 i w) U (BK Θ shT t (up2 T 0 i w) h) ∧ Nx Θ h (BK Θ shT t (up2 T 0 i w) h) (TU t u) 0 0 := by
  obtain ⟨c1, c2, c3, c4, c5⟩ := c
  have l1 : shT.length = 1 := rfl
  have l2 : shN.length = 1 := rfl
  have nx : Nx Θ h (BK Θ shT t (up2 T 0 i w) h) (TU t u) 0 0 := (Nx.bk c1).wid (fun x _ hx => Or.inl (by omega)) (Nat.le_refl 0) (Nat.le_refl 0)
  exact ⟨⟨HB.self c1.1, c2.other c1.1 (by omega), sb_nx c3 nx (by rintro (z | z) <;> omega) (by rintro (z | z) <;> omega), ⟨by rw [up2_nj (by omega)]; exact c4.1, by rw [up2_nj (by omega)]; exact c4.2⟩, c5⟩, nx⟩
theorem ct_setU {i w : Int} (c : CT Θ t u q v n τ T U h) : CT Θ t u q v n τ T (up2 U 0 i w) (BK Θ shN u (up2 U 0 i w) h) ∧ Nx Θ h (BK Θ shN u (up2 U 0 i w) h) (TU t u) 0 0 := by
  obtain ⟨c1, c2, c3, c4, c5⟩ := c
  have l1 : shT.length = 1 := rfl
  have l2 : shN.length = 1 := rfl
  have nx : Nx Θ h (BK Θ shN u (up2 U 0 i w) h) (TU t u) 0 0 := (Nx.bk c2).wid (fun x _ hx => Or.inr (by omega)) (Nat.le_refl 0) (Nat.le_refl 0)
  exact ⟨⟨c1.other c2.1 (by omega), HB.self c2.1, sb_nx c3 nx (by rintro (z | z) <;> omega) (by rintro (z | z) <;> omega), c4, c5⟩, nx⟩
theorem ct_w1 (c : CT Θ t u q v n τ T U h) {w : Int} : wF Θ h 7 t 1 (.int (J w)) = some (BK Θ shT t (up2 T 0 1 w) h) := HB.xF c.1 (i := 0) (ci := 7) (k := 1) rfl rfl
theorem ct_w2 (c : CT Θ t u q v n τ T U h) {w : Int} : wF Θ h 7 t 2 (.int (J w)) = some (BK Θ shT t (up2 T 0 2 w) h) := HB.xF c.1 (i := 0) (ci := 7) (k := 2) rfl rfl
theorem ct_w3 (c : CT Θ t u q v n τ T U h) {w : Int} : wF Θ h 7 t 3 (.int (J w)) = some (BK Θ shT t (up2 T 0 3 w) h) := HB.xF c.1 (i := 0) (ci := 7) (k := 3) rfl rfl
theorem ct_w6 (c : CT Θ t u q v n τ T U h) {w : Int} : wF Θ h 7 t 6 (.int (J w)) = some (BK Θ shT t (up2 T 0 6 w) h) := HB.xF c.1 (i := 0) (ci := 7) (k := 6) rfl rfl
theorem ct_w4 (c : CT Θ t u q v n τ T U h) {w : Nat} : wF Θ h 7 t 4 (.ref w) = some (BK Θ shT t (up2 T 0 4 w) h) := HB.xG c.1 (i := 0) (ci := 7) (k := 4) rfl rfl
theorem ct_wn (c : CT Θ t u q v n τ T U h) {x w : Int} (x0 : 0 ≤ x) (x1 : x < 3) : aW Θ h 0 u (J x) (J w) = some (BK Θ shN u (up2 U 0 x w) h) := HB.xW c.2.1 (i := 0) (t := 0) (k := 3) rfl (by omega) x0 x1
theorem t_isAt (c : CT Θ t u q v n τ T U h) (hn : n ≤ 60) {p a : Int} (p0 : -1000 ≤ p) (p1 : p ≤ 1000) (a0 : 0 ≤ a) (a1 : a < 128) : P_T_isAt Θ N h t (J p) (J a) = some (J (if 0 ≤ p ∧ p < n ∧ τ p = a then 1 else 0), h) := by
  have n0 := sb_0 c.2.2.1
  unfold P_T_isAt
  by_cases c0 : p < 0
  · rw [if_pos (by rw [J_lt0] <;> omega), if_neg (by omega)]
  · rw [if_neg (by rw [J_lt0] <;> omega), ct_q c, bo_some, sb_O c.2.2.1, ct_len c, bc_some]
    by_cases c1 : p < n
    · have r := sb_rng c.2.2.1 (j := p) (by omega) c1
      rw [if_neg (by rw [J_le] <;> omega), ct_q c, bo_some, sb_O c.2.2.1, sb_charAt c.2.2.1 (by omega) c1, bc_some]
      by_cases c2 : τ p = a
      · rw [if_pos (by rw [c2]), if_pos ⟨by omega, c1, c2⟩]
      · rw [if_neg (by rw [J_eq] <;> omega), if_neg (fun z => c2 z.2.2)]
    · rw [if_pos (by rw [J_le] <;> omega), if_neg (fun z => c1 z.2.1)]
theorem t_isDigit (c : CT Θ t u q v n τ T U h) (hn : n ≤ 60) {p : Int} (p0 : 0 ≤ p) (p1 : p ≤ 1000) : P_T_isDigitAt Θ N h t (J p) = some (J (if p < n ∧ 48 ≤ τ p ∧ τ p ≤ 57 then 1 else 0), h) := by
  have n0 := sb_0 c.2.2.1
  unfold P_T_isDigitAt
  rw [if_neg (by rw [J_lt0] <;> omega), ct_q c, bo_some, sb_O c.2.2.1, ct_len c, bc_some]
  by_cases c1 : p < n
  · have r := sb_rng c.2.2.1 (j := p) (by omega) c1
    rw [if_neg (by rw [J_le] <;> omega), ct_q c, bo_some, sb_O c.2.2.1, sb_charAt c.2.2.1 (by omega) c1, bc_some]
    by_cases c2 : τ p < 48
    · rw [if_pos (by rw [J_lt] <;> omega), if_neg (by omega)]
    · rw [if_neg (by rw [J_lt] <;> omega), ct_q c, bo_some, sb_O c.2.2.1, sb_charAt c.2.2.1 (by omega) c1, bc_some]
      by_cases c3 : 57 < τ p
      · rw [if_pos (by rw [J_lt] <;> omega), if_neg (by omega)]
      · rw [if_neg (by rw [J_lt] <;> omega), if_pos (by omega)]
  · rw [if_pos (by rw [J_le] <;> omega), if_neg (fun z => c1 z.1)]
theorem t_num_L (c : CT Θ t u q v n τ T U h) (hn : n ≤ 60) {s : Int} (s0 : 0 ≤ s) (s1 : s ≤ 500) {K : mH → Int32 → Int32 → Option (Int32 × mH)} : ∀ (r : Nat) (w p : Int) (f : Nat), p + r = s + 3 → s ≤ p → r < f → P_T_passNumber_4 Θ N K t (J s) f h (J w) (J p) = K h (J (nmv τ n r w p).1) (J (nmv τ n r w p).2) := by
  intro r
  induction r with
  | zero =>
    intro w p f hp hs hf
    obtain ⟨f, rfl⟩ : ∃ n', f = n' + 1 := ⟨f - 1, by omega⟩
    rw [E_T_passNumber_4, B_T_passNumber_4, J_add, if_pos (by rw [J_le] <;> omega), nmv]
  | succ r ih =>
    intro w p f hp hs hf
    obtain ⟨f, rfl⟩ : ∃ n', f = n' + 1 := ⟨f - 1, by omega⟩
    rw [E_T_passNumber_4, B_T_passNumber_4, J_add, if_neg (by rw [J_le] <;> omega), ct_O c, t_isDigit c hn (by omega) (by omega), bc_some, nmv]
    by_cases d : p < n ∧ 48 ≤ τ p ∧ τ p ≤ 57
    · rw [if_pos d, if_pos d, if_neg (show ¬ J 1 = (0 : Int32) by decide), ct_q c, bo_some, sb_O c.2.2.1, sb_charAt c.2.2.1 (by omega) d.1, bc_some, J_mul, J_sub, J_add, J_add]
      exact ih _ (p + 1) f (by omega) (by omega) (by omega)
    · rw [if_neg d, if_neg d, if_pos (show J 0 = (0 : Int32) from rfl)]
/-- numbers kept -/
def kept (T U : Nat → Int → Int) (ns : List Int) : Prop := T 0 6 = ns.length ∧ ∀ (k : Nat) (x : Int), ns[k]? = some x → U 0 k = x
/-- what reading leaves -/
def same3 (T T2 : Nat → Int → Int) : Prop := T2 0 1 = T 0 1 ∧ T2 0 3 = T 0 3 ∧ T2 0 4 = T 0 4
theorem t_passNumber (hN : 2000 ≤ N) (c : CT Θ t u q v n τ T U h) (hn : n ≤ 60) {s : Int} (s0 : 0 ≤ s) (s1 : s ≤ 500) {ns : List Int} (hk : kept T U ns) (h3 : ns.length < 3) : ∃ h2 T2 U2, P_T_passNumber Θ N h t (J s) = some (J (if (nmv τ n 3 0 s).2 = s then -1 else (nmv τ n 3 0 s).2), h2) ∧ CT Θ t u q v n τ T2 U2 h2 ∧ Nx Θ h h2 (TU t u) 0 0 ∧ same3 T T2 ∧ T2 0 2 = T 0 2 ∧ kept T2 U2 (if (nmv τ n 3 0 s).2 = s then ns else ns ++ [if 0 ≤ s - 1 ∧ s - 1 < n ∧ τ (s - 1) = 45 then -(nmv τ n 3 0 s).1 else (nmv τ n 3 0 s).1]) := by
  have g := nmv_ge (τ := τ) (n := n) 3 0 s
  have k6 := hk.1
  have e := fun K => t_num_L (Θ := Θ) (N := N) (K := K) c hn s0 s1 3 0 s N (by omega) (by omega) (by omega)
  unfold P_T_passNumber
  rw [e]
  by_cases d : (nmv τ n 3 0 s).2 = s
  · rw [d, if_pos rfl, if_pos rfl, if_pos rfl]
    exact ⟨h, T, U, rfl, c, Nx.refl, ⟨rfl, rfl, rfl⟩, rfl, hk⟩
  · have fin : ∀ y : Int, ∃ h2 T2 U2, (gO Θ h 7 t (bc (P_T_keepNumber Θ N h t (J y)) (fun v15 h14 => (some (J (nmv τ n 3 0 s).2, h14))))) = some (J (nmv τ n 3 0 s).2, h2) ∧ CT Θ t u q v n τ T2 U2 h2 ∧ Nx Θ h h2 (TU t u) 0 0 ∧ same3 T T2 ∧ T2 0 2 = T 0 2 ∧ kept T2 U2 (ns ++ [y]) := by
      intro y
      obtain ⟨c2, x2⟩ := ct_setU (i := (ns.length : Int)) (w := y) c
      obtain ⟨c3, x3⟩ := ct_setT (i := 6) (w := (ns.length : Int) + 1) c2 (by omega)
      unfold P_T_keepNumber
      rw [ct_O c, ct_6 c, bo_some, k6, if_neg (by rw [J_le] <;> omega), ct_u c, bo_some, bo_some, ct_wn c (by omega) (by omega), bo_some, ct_6 c2, bo_some, k6, J_add, ct_w6 c2, bo_some, bc_some]
      refine ⟨_, _, _, rfl, c3, (x2.trans x3).up (Nat.le_refl 0) (Nat.le_refl 0), ⟨up2_nj (by omega), up2_nj (by omega), up2_nj (by omega)⟩, up2_nj (by omega), ?_, fun k x hx => ?_⟩
      · rw [up2_eq, List.length_append, List.length_singleton]
        omega
      · by_cases z : k < ns.length
        · rw [List.getElem?_append_left z] at hx
          rw [up2_nj (by omega)]
          exact hk.2 k x hx
        · rw [List.getElem?_append_right (by omega)] at hx
          have : k = ns.length := by
            have := (List.getElem?_eq_some_iff.mp hx).1
            simp at this
            omega
          subst this
          simp at hx
          rw [up2_eq]
          exact hx
    rw [if_neg (by rw [J_eq] <;> omega), if_neg d, if_neg d, ct_O c, J_sub, t_isAt c hn (by omega) (by omega) (by omega) (by omega), bc_some, jn_eq]
    by_cases f : 0 ≤ s - 1 ∧ s - 1 < n ∧ τ (s - 1) = 45
    · rw [if_pos f, if_pos f, if_neg (show ¬ J 1 = (0 : Int32) by decide), J_neg]
      exact fin _
    · rw [if_neg f, if_neg f, if_pos (show J 0 = (0 : Int32) from rfl)]
      exact fin _
end PC
