/-! texts of the law: lists of letters -/
def mI9 (Θ : mW) : Prop := (∀ i j : Nat, i < 9 → j < 9 → mwad Θ (90 + i) = mwad Θ (90 + j) → i = j) ∧ (∀ i j : Nat, i < 9 → j < 9 → mwad Θ (110 + i) = mwad Θ (110 + j) → i = j) ∧ ∀ j : Nat, j < 9 → mwad Θ (90 + j) < mwB Θ ∧ mwad Θ (110 + j) < mwB Θ
abbrev shT : List Sh := [.inl (9, [some none, none, none, none])]
/-- the letters of the law's own text j -/
def lLt (j : Nat) : List Int := (lTx.getD j []).map (fun (x : Nat) => (x : Int))
/-- a text at a, its row of bytes at b: the letters l -/
def TX (Θ : mW) (a b : Nat) (l : List Int) (h : mH) : Prop := (∃ j : Nat, j < 9 ∧ a = mwad Θ (90 + j) ∧ b = mwad Θ (110 + j) ∧ l = lLt j) ∨ (∃ A B : Nat → Int → Int, a ≠ b ∧ HB Θ shT a A h ∧ HB Θ (shA l.length) b B h ∧ A 0 0 = b ∧ A 0 1 = 0 ∧ (∀ j : Nat, j < l.length → B 0 j = l.getD j 0 ∧ 0 ≤ l.getD j 0 ∧ l.getD j 0 < 128) ∧ l.length ≤ 140)
theorem find_rng {p : Nat → Bool} {j : Nat} : ∀ n : Nat, j < n → (∀ i, i < n → (p i = true ↔ i = j)) → (List.range n).find? p = some j
  | 0, h, _ => by omega
  | n + 1, h, g => by
    rw [List.range_succ, List.find?_append]
    by_cases e : j = n
    · have : (List.range n).find? p = none := by
        rw [List.find?_eq_none]
        intro i hi q
        rw [List.mem_range] at hi
        have := (g i (by omega)).mp q
        omega
      rw [this, Option.none_or]
      have pn : p n = true := (g n (by omega)).mpr e.symm
      simp [pn, e]
    · rw [find_rng n (by omega) (fun i hi => g i (by omega)), Option.some_or]
theorem lLt_rng : ∀ j : Fin 9, (lLt j).length ≤ 1 ∧ ∀ i : Fin 2, 0 ≤ (lLt j).getD i 0 ∧ (lLt j).getD i 0 < 128 := by decide
theorem lLt_at : ∀ j : Fin 9, ∀ i : Fin 2, (lLt j).getD i 0 = (((lTx.getD j []).getD i 0 : Nat) : Int) := by decide
theorem lLt_len (j : Nat) : (lLt j).length = (lTx.getD j []).length := List.length_map _
section ST9
variable {Θ : mW} {N q v a b : Nat} {l l2 : List Int} {h h0 h2 : mH} {P : Nat → Prop} {y z y2 z2 : Nat}
theorem TX.nx (t : TX Θ a b l h) (x : Nx Θ h h2 P y z) (ha : ¬ P a) (hb : ¬ P b) : TX Θ a b l h2 := by
  rcases t with t | ⟨A, B, t0, t1, t2, t3, t4, t5, t6⟩
  · exact Or.inl t
  · refine Or.inr ⟨A, B, t0, t1.nx x (fun u u1 u2 p => ?_), t2.nx x (fun u u1 u2 p => ?_), t3, t4, t5, t6⟩
    · have : u = a := by simp at u2; omega
      rw [this] at p
      exact ha p
    · have : u = b := by simp at u2; omega
      rw [this] at p
      exact hb p
theorem TX.get (mi : mI9 Θ) (t : TX Θ a b l h) : ∃ F : Nat → Int32, rSv Θ h a = some b ∧ rSc Θ h a = some (J 0) ∧ (∀ {ρ : Type} (p : Option ρ), gS Θ h a p = p) ∧ rSB Θ h b = some (l.length, F) ∧ (∀ j : Nat, j < l.length → F j = J (l.getD j 0) ∧ 0 ≤ l.getD j 0 ∧ l.getD j 0 < 128) ∧ l.length ≤ 140 := by
  rcases t with ⟨j, j9, rfl, rfl, rfl⟩ | ⟨A, B, t0, t1, t2, t3, t4, t5, t6⟩
  · have lt := mi.2.2 j j9
    have g1 : gt Θ h (mwad Θ (90 + j)) = none := by unfold gt; rw [if_neg (by omega)]
    have g2 : gt Θ h (mwad Θ (110 + j)) = none := by unfold gt; rw [if_neg (by omega)]
    have o1 : oTx Θ (mwad Θ (90 + j)) = some j := find_rng 9 j9 (fun i hi => by
      rw [decide_eq_true_eq]
      exact ⟨fun e => mi.1 i j hi j9 e, fun e => by rw [e]⟩)
    have o2 : oTb Θ (mwad Θ (110 + j)) = some j := find_rng 9 j9 (fun i hi => by
      rw [decide_eq_true_eq]
      exact ⟨fun e => mi.2.1 i j hi j9 e, fun e => by rw [e]⟩)
    have r1 : rA Θ h 9 (mwad Θ (90 + j)) 0 = none := by unfold rA rV; rw [g1]
    have r2 : rI Θ h 9 (mwad Θ (90 + j)) 1 = none := by unfold rI rV; rw [g1]
    have ll : (lLt j).length ≤ 1 ∧ ∀ i : Fin 2, 0 ≤ (lLt j).getD i 0 ∧ (lLt j).getD i 0 < 128 := lLt_rng ⟨j, j9⟩
    refine ⟨fun i => nI ((lTx.getD j []).getD i 0), ?_, ?_, fun p => ?_, ?_, fun i hi => ?_, by have := ll.1; omega⟩
    · unfold rSv; rw [r1, o1]
    · unfold rSc; rw [r2, o1]; rfl
    · unfold gS; rw [g1, o1]
    · unfold rSB; rw [g2, o2, lLt_len]
    · have i2 : i < 2 := by have := ll.1; omega
      have la : (lLt j).getD i 0 = (((lTx.getD j []).getD i 0 : Nat) : Int) := lLt_at ⟨j, j9⟩ ⟨i, i2⟩
      refine ⟨?_, ll.2 ⟨i, i2⟩⟩
      show nI ((lTx.getD j []).getD i 0) = _
      rw [la, J_nI]
  · have r1 : rA Θ h 9 a 0 = some b := by
      have := HB.xB t1 (i := 0) (ci := 9) (k := 0) rfl rfl
      rw [show A 0 ((0 : Nat) : Int) = b from t3, Int.toNat_natCast] at this
      exact this
    have r2 : rI Θ h 9 a 1 = some (J 0) := by
      have := HB.xI t1 (i := 0) (ci := 9) (k := 1) rfl rfl
      rw [show A 0 ((1 : Nat) : Int) = 0 from t4] at this
      exact this
    have g2 := HB.at2 t2 (i := 0) rfl
    have g1 := HB.at2 t1 (i := 0) rfl
    refine ⟨fun k => J (B 0 k), ?_, ?_, fun p => ?_, ?_, fun j hj => ⟨congrArg J (t5 j hj).1, (t5 j hj).2⟩, t6⟩
    · unfold rSv; rw [r1]
    · unfold rSc; rw [r2]
    · unfold gS
      rw [Nat.add_zero] at g1
      rw [g1]
      exact if_pos rfl
    · unfold rSB
      rw [Nat.add_zero] at g2
      rw [g2]
      exact if_pos rfl
theorem st_coder (mi : mI9 Θ) (t : TX Θ a b l h) : P_ST_coder Θ N h a = some (J 0, h) := by
  obtain ⟨F, f1, f2, f3, f4, f5, f6⟩ := t.get mi
  unfold P_ST_coder
  rw [if_neg (by decide), f2, bo_some, if_pos (by decide)]
theorem st_len (mi : mI9 Θ) (t : TX Θ a b l h) : P_ST_length Θ N h a = some (J l.length, h) := by
  obtain ⟨F, f1, f2, f3, f4, f5, f6⟩ := t.get mi
  unfold P_ST_length aNs
  rw [f1, bo_some, f4, bo_some, bo_some, f3, st_coder mi t, bc_some, sh_r, J_ofNat]
theorem st_at (mi : mI9 Θ) (t : TX Θ a b l h) {k : Nat} (hk : k < l.length) : P_ST_charAt Θ N h a (J k) = some (J (l.getD k 0), h) := by
  obtain ⟨F, f1, f2, f3, f4, f5, f6⟩ := t.get mi
  obtain ⟨e, e0, e1⟩ := f5 k hk
  have il : P_ST_isLatin1 Θ N h a = some (J 1, h) := by
    unfold P_ST_isLatin1
    rw [if_neg (by decide), f2, bo_some, if_pos (show J 0 = (0 : Int32) from rfl)]
  have ci : P_ST_checkIndex Θ N h (J k) (J l.length) = some ((), h) := by
    unfold P_ST_checkIndex P_PR_checkIndex
    rw [if_neg (by rw [J_lt0] <;> omega), if_pos (by rw [J_lt] <;> omega), bc_some]
  have ar : aRs Θ h b (J k) = some (J (l.getD k 0)) := by
    unfold aRs
    rw [f4, bo_some]
    have nk : (J (k : Int)).toNatClampNeg = k := by rw [J_nat (by omega) (by omega)]; omega
    show (if ¬ (J (k : Int) < 0 ∨ l.length ≤ (J (k : Int)).toNatClampNeg) then some (F (J (k : Int)).toNatClampNeg) else none) = _
    rw [nk, if_pos (by rw [J_lt0 (by omega) (by omega)]; omega), e]
  have s1 : P_S1_charAt Θ N h b (J k) = some (J (l.getD k 0), h) := by
    unfold P_S1_charAt aNs
    rw [f4, bo_some, bo_some, J_ofNat, ci, bc_some, ar, bo_some, b_at' e0 e1, J_chr e0 (by omega), if_pos (chr_rng e0 (by omega))]
  unfold P_ST_charAt
  rw [f3, il, bc_some, if_neg (show ¬ J 1 = (0 : Int32) by decide), f1, bo_some, s1, bc_some, if_pos (chr_rng e0 (by omega))]
/-! a text is put together -/
/-- since h0 nothing but this was made: the letters l in the StringBuilder at q, whose row is at v -/
def BL (Θ : mW) (h0 : mH) (q v : Nat) (l : List Int) (y z : Nat) (h : mH) : Prop := (∃ β, SBs Θ q v l.length β h ∧ ∀ j : Nat, j < l.length → β j = l.getD j 0) ∧ (mwB Θ + h0.length ≤ q ∧ mwB Θ + h0.length ≤ v) ∧ Nx Θ h0 h (fun _ => False) y z
theorem Nx.new0 (a : Nx Θ h0 h (fun _ => False) y z) (c : Nx Θ h h2 P y2 z2) (hP : ∀ x, P x → mwB Θ + h0.length ≤ x) : Nx Θ h0 h2 (fun _ => False) (y + y2) (z + z2) := a.new (Q := P) c.or2 hP
theorem sb_new : ∃ h1, P_SB_init Θ N (h ++ [oB 8 [.null, .int 0, .int 0, .int 0]]) (mwB Θ + h.length) = some ((), h1) ∧ BL Θ h (mwB Θ + h.length) (mwB Θ + h.length + 1) [] 2 20 h1 := by
  have e1 : P_AB_init Θ N (h ++ [oB 8 [.null, .int 0, .int 0, .int 0]]) (mwB Θ + h.length) (J 16) = some ((), h ++ [oB 8 [.ref (mwB Θ + h.length + 1), .int (J 0), .int 0, .int 0], aI 4 16 (fun _ => 0)]) := by
    unfold P_AB_init
    rw [if_neg (by decide), l_alx (g := h) (l := [oB 8 [.null, .int 0, .int 0, .int 0]]) 16 ⟨by decide, by decide, by decide⟩]
    have w1 := l_wF0 (Θ := Θ) (g := h) (l := [oB 8 [.null, .int 0, .int 0, .int 0], aI 4 16 (fun _ => 0)]) (ci := 8) (fs := [.null, .int 0, .int 0, .int 0]) (j := 0) (v := .ref (mwB Θ + h.length + 1)) rfl (by decide)
    have w2 := l_wF0 (Θ := Θ) (g := h) (l := [oB 8 [.ref (mwB Θ + h.length + 1), .int 0, .int 0, .int 0], aI 4 16 (fun _ => 0)]) (ci := 8) (fs := [.ref (mwB Θ + h.length + 1), .int 0, .int 0, .int 0]) (j := 1) (v := .int (J 0)) rfl (by simp)
    refine (congrArg (fun z => bo z _) w1).trans ?_
    rw [bo_some, if_pos (by decide)]
    refine (congrArg (fun z => bo z _) w2).trans ?_
    rfl
  refine ⟨h ++ [oB 8 [.ref (mwB Θ + h.length + 1), .int (J 0), .int 0, .int 0], aI 4 16 (fun _ => 0)], ?_, ⟨fun _ => 0, ⟨fun _ j => if j = 0 then ((mwB Θ + h.length + 1 : Nat) : Int) else 0, fun _ _ => 0, 16, ?_, ?_, by omega, ⟨rfl, rfl, rfl⟩, by simp, fun j _ _ => ⟨Int.le_refl 0, (by decide : (0 : Int) < 128)⟩, fun j _ _ => rfl⟩, fun j hj => by simp at hj⟩, ⟨by omega, by omega⟩, ?_⟩
  · unfold P_SB_init
    rw [e1, bc_some]
  · refine HB.of ⟨by omega, by simp [shB]; omega⟩ (fun i s hi => ?_)
    obtain rfl : i = 0 := by
      have := (List.getElem?_eq_some_iff.mp hi).1
      simp [shB] at this
      exact this
    cases hi
    rw [l_gt]
    rfl
  · refine HB.of ⟨by omega, by simp; omega⟩ (fun i s hi => ?_)
    obtain rfl : i = 0 := by
      have := (List.getElem?_eq_some_iff.mp hi).1
      simp at this
      exact this
    cases hi
    rw [Nat.add_zero, l_gt]
    rfl
  · refine ⟨by simp, ?_, fun x hx _ => ?_⟩
    · have : msz (h ++ [oB 8 [.ref (mwB Θ + h.length + 1), .int (J 0), .int 0, .int 0], aI 4 16 (fun _ => 0)]) = msz h + 20 := by
        rw [show h ++ [oB 8 [.ref (mwB Θ + h.length + 1), .int (J 0), .int 0, .int 0], aI 4 16 (fun _ => 0)] = (h ++ [oB 8 [.ref (mwB Θ + h.length + 1), .int (J 0), .int 0, .int 0]]) ++ [aI 4 16 (fun _ => 0)] by simp, msz_app, msz_app]
        rfl
      omega
    · have a1 := (Nx.app (Θ := Θ) (h := h) (e := oB 8 [.ref (mwB Θ + h.length + 1), .int (J 0), .int 0, .int 0]) (P := fun _ => False)).2.2 x hx id
      have a2 := (Nx.app (Θ := Θ) (h := h ++ [oB 8 [.ref (mwB Θ + h.length + 1), .int (J 0), .int 0, .int 0]]) (e := aI 4 16 (fun _ => 0)) (P := fun _ => False)).2.2 x (by simp; omega) id
      rw [show h ++ [oB 8 [.ref (mwB Θ + h.length + 1), .int (J 0), .int 0, .int 0], aI 4 16 (fun _ => 0)] = (h ++ [oB 8 [.ref (mwB Θ + h.length + 1), .int (J 0), .int 0, .int 0]]) ++ [aI 4 16 (fun _ => 0)] by simp, a2, a1]
theorem BL.O (s : BL Θ h0 q v l y z h) {ρ : Type} {p : Option ρ} : gO Θ h 8 q p = p := by
  obtain ⟨⟨β, s1, -⟩, -⟩ := s
  exact sb_O s1
/-- digits as letters -/
def dgl (x : Int) : List Int := (List.range (nd x)).map (fun i => dg x (nd x - 1 - i))
theorem dgl_len {x : Int} : (dgl x).length = nd x := by unfold dgl; simp
theorem dgl_at {x : Int} {i : Nat} (hi : i < nd x) : (dgl x).getD i 0 = dg x (nd x - 1 - i) := by
  unfold dgl
  simp [List.getD_eq_getElem?_getD, hi]
theorem getD_app {i : Nat} : (l ++ l2).getD i 0 = if i < l.length then l.getD i 0 else l2.getD (i - l.length) 0 := by
  simp only [List.getD_eq_getElem?_getD, List.getElem?_append]
  split <;> rfl
theorem bl_I (hN : 2000 ≤ N) (s : BL Θ h0 q v l y z h) {x : Int} (x0 : 0 ≤ x) (x1 : x < 1000000000) (hl : l.length ≤ 50) : ∃ v2 h2, P_SB_append_I Θ N h q (J x) = some (q, h2) ∧ BL Θ h0 q v2 (l ++ dgl x) (y + 1) (z + 140) h2 := by
  obtain ⟨⟨β, s1, s2⟩, s3, s4⟩ := s
  obtain ⟨v2, h2, e1, e2, e3, e4⟩ := sb_putI (N := N) hN s1 x0 x1 (by omega)
  refine ⟨v2, h2, e1, ⟨wdg β l.length x, ?_, fun j hj => ?_⟩, ⟨s3.1, ?_⟩, s4.new0 e4 (fun u hu => by rcases hu with rfl | rfl <;> omega)⟩
  · rw [List.length_append, dgl_len]
    have : ((l.length + nd x : Nat) : Int) = (l.length : Int) + nd x := by omega
    rw [this]
    exact e2
  · rw [List.length_append, dgl_len] at hj
    rw [getD_app]
    unfold wdg
    by_cases c : j < l.length
    · rw [if_neg (by omega), if_pos c]
      exact s2 j c
    · rw [if_pos (by omega), if_neg c, dgl_at (by omega)]
      exact congrArg (dg x) (by omega)
  · rcases e3 with rfl | e
    · exact s3.2
    · have := s4.1.1
      omega
theorem bl_T (mi : mI9 Θ) (s : BL Θ h0 q v l y z h) (t : TX Θ a b l2 h) (hl : l.length + l2.length ≤ 62) : ∃ v2 h2, P_SB_append_o Θ N h q a = some (q, h2) ∧ BL Θ h0 q v2 (l ++ l2) (y + 1) (z + 140) h2 := by
  have sO := fun (p : Option (Nat × mH)) => s.O (p := p)
  obtain ⟨⟨β, s1, s2⟩, s3, s4⟩ := s
  have gq : ∃ fs, gt Θ h q = some (oB 8 fs) := by
    obtain ⟨B, A, cap, b1, -⟩ := s1
    exact ⟨_, HB.at2 b1 (i := 0) rfl⟩
  obtain ⟨fs, gq⟩ := gq
  have aq : a ≠ q := by
    rcases t with ⟨j, j9, rfl, -, -⟩ | ⟨A, B, t0, t1, t2, -⟩
    · have := (mi.2.2 j j9).1
      omega
    · intro e
      have g := HB.at2 t1 (i := 0) rfl
      rw [Nat.add_zero, e, gq] at g
      cases g
  have bq : b ≠ q := by
    rcases t with ⟨j, j9, -, rfl, -⟩ | ⟨A, B, t0, t1, t2, -⟩
    · have := (mi.2.2 j j9).2
      omega
    · intro e
      have g := HB.at2 t2 (i := 0) rfl
      rw [Nat.add_zero, e, gq] at g
      cases g
  obtain ⟨-, -, -, f30, -⟩ := t.get mi
  obtain ⟨v2, h1, e1, ⟨B, A, cap, c1, c2, c3, c4, c5, c6, c7⟩, e3, e4⟩ := sb_ens (N := N) s1 (c := (l.length : Int) + l2.length) (by omega) (by omega)
  have t1 : TX Θ a b l2 h1 := t.nx e4 (fun p => aq p) (fun p => bq p)
  obtain ⟨F, f1, f2, f3, f4, f5, f6⟩ := t1.get mi
  have rc := b_count s1.choose_spec.choose_spec.choose_spec.1 (n := (l.length : Int)) (by
    obtain ⟨-, -, -, hh, -⟩ := s1.choose_spec.choose_spec.choose_spec
    exact hh.2.2)
  let A2 : Nat → Int → Int := fun i j => if i = 0 ∧ (l.length : Int) ≤ j ∧ j < (l.length : Int) + l2.length then l2.getD (j - l.length).toNat 0 else A i j
  have cp : cpBs Θ h1 b (J 0) v2 (J (l.length : Int)) (J (l2.length : Int)) = some (BK Θ (shA cap) v2 A2 h1) := by
    have g1 := HB.at2 c2 (i := 0) rfl
    rw [Nat.add_zero] at g1
    have n0 : (J 0).toNatClampNeg = 0 := J_nat (a := 0) (by omega) (by omega)
    have n1 : (J (l.length : Int)).toNatClampNeg = l.length := by rw [J_nat (by omega) (by omega)]; omega
    have n2 : (J (l2.length : Int)).toNatClampNeg = l2.length := by rw [J_nat (by omega) (by omega)]; omega
    unfold cpBs
    rw [f4, bo_some, g1]
    show (if (4 : Nat) = 4 ∧ (¬ J 0 < 0 ∧ ¬ J (l.length : Int) < 0 ∧ ¬ J (l2.length : Int) < 0) ∧ (J 0).toNatClampNeg + (J (l2.length : Int)).toNatClampNeg ≤ l2.length ∧ (J (l.length : Int)).toNatClampNeg + (J (l2.length : Int)).toNatClampNeg ≤ cap ∧ (List.range (J (l2.length : Int)).toNatClampNeg).all (fun i => fits .byte (.int (F ((J 0).toNatClampNeg + i)))) = true then some (pt Θ h1 v2 (aI 4 cap (va_cpy F (fun k => J (A 0 k)) (J 0).toNatClampNeg (J (l.length : Int)).toNatClampNeg (J (l2.length : Int)).toNatClampNeg))) else none) = _
    rw [n0, n1, n2, if_pos ⟨rfl, ⟨by decide, by rw [J_lt0] <;> omega, by rw [J_lt0] <;> omega⟩, by omega, by omega, by
      rw [List.all_eq_true]
      intro i hi
      rw [List.mem_range] at hi
      obtain ⟨g, g0, g1⟩ := f5 (0 + i) (by omega)
      rw [g]
      exact fits_by g0 g1⟩]
    have pk := BK_pt (Θ := Θ) (L := shA cap) (b := v2) (D := A) (h := h1) c2.1 (i := 0) (s := .inr (.inl (4, cap))) (row := A2 0) rfl
    rw [Nat.add_zero, c2.2] at pk
    have ek : va_cpy F (fun k => J (A 0 k)) 0 l.length l2.length = fun k : Nat => J (A2 0 k) := by
      funext k
      unfold va_cpy
      show _ = J (if (0 : Nat) = 0 ∧ (l.length : Int) ≤ (k : Int) ∧ (k : Int) < (l.length : Int) + l2.length then l2.getD ((k : Int) - l.length).toNat 0 else A 0 k)
      by_cases c : l.length ≤ k ∧ k < l.length + l2.length
      · rw [if_pos c, if_pos ⟨rfl, by omega, by omega⟩, show 0 + (k - l.length) = k - l.length by omega, (f5 (k - l.length) (by omega)).1, show ((k : Int) - (l.length : Int)).toNat = k - l.length by omega]
      · rw [if_neg c, if_neg (fun z => c ⟨by omega, by omega⟩)]
    rw [ek]
    refine congrArg some (pk.trans (BK_ext (fun i hi => ?_)))
    have : i = 0 := by simp at hi; omega
    rw [if_pos this, this]
  have gb : P_ST_getBytes Θ N h1 a v2 (J (l.length : Int)) (J 0) = some ((), BK Θ (shA cap) v2 A2 h1) := by
    unfold P_ST_getBytes aNs
    rw [f3, st_coder mi t1, bc_some, if_pos rfl, f1, bo_some, bo_some, f4, bo_some, bo_some, sh_l, J_ofNat, cp, bo_some]
  have inf : P_AB_inflateIfNeededFor Θ N h1 q a = some ((), h1) := by
    unfold P_AB_inflateIfNeededFor
    rw [if_neg (by decide), b_coder c1 c4.2.1, bo_some, f3, st_coder mi t1, bc_some, if_pos rfl]
  have put : P_AB_putStringAt Θ N h1 q (J (l.length : Int)) a = some ((), BK Θ (shA cap) v2 A2 h1) := by
    unfold P_AB_putStringAt
    rw [b_O8 c1, inf, bc_some, b_value c1 c4.1, bo_some, b_coder c1 c4.2.1, bo_some, f3, gb, bc_some]
  have c1' : HB Θ shB q B (BK Θ (shA cap) v2 A2 h1) := c1.other c2.1 (by simp [shB]; omega)
  have wr := HB.xF (w := (l.length : Int) + l2.length) c1' (i := 0) (ci := 8) (k := 3) rfl rfl
  rw [Nat.add_zero] at wr
  have c2' : HB Θ (shA cap) v2 A2 (BK Θ (shA cap) v2 A2 h1) := HB.self c2.1
  have xx : Nx Θ h1 (BK Θ shB q (up2 B 0 ((3 : Nat) : Int) ((l.length : Int) + l2.length)) (BK Θ (shA cap) v2 A2 h1)) (fun u => u = q ∨ u = v2) 0 0 := by
    have a1 : Nx Θ h1 (BK Θ (shA cap) v2 A2 h1) (fun u => u = q ∨ u = v2) 0 0 := (Nx.bk c2).wid (fun u _ p => Or.inr (by simp at p; omega)) (by omega) (by omega)
    have a2 : Nx Θ (BK Θ (shA cap) v2 A2 h1) (BK Θ shB q (up2 B 0 ((3 : Nat) : Int) ((l.length : Int) + l2.length)) (BK Θ (shA cap) v2 A2 h1)) (fun u => u = q ∨ u = v2) 0 0 := (Nx.bk c1').wid (fun u _ p => Or.inl (by simp [shB] at p; omega)) (by omega) (by omega)
    exact (a1.trans a2).up (by omega) (by omega)
  have v2l : mwB Θ + h0.length ≤ v2 := by
    rcases e3 with rfl | e
    · exact s3.2
    · have := s4.1.1
      omega
  refine ⟨v2, _, ?_, ⟨fun j => A2 0 j, ⟨up2 B 0 ((3 : Nat) : Int) ((l.length : Int) + l2.length), A2, cap, HB.self c1'.1, c2'.other c1'.1 (by simp [shB]; omega), c3, ⟨?_, ?_, ?_⟩, ?_, fun j j0 j1 => ?_, fun j j0 j1 => rfl⟩, fun j hj => ?_⟩, ⟨s3.1, v2l⟩, ?_⟩
  · unfold P_SB_append_o P_AB_append_o
    rw [sO, f30, st_len mi t, bc_some, rc, bo_some, sO, J_add, e1, bc_some, b_count c1 c4.2.2, bo_some, b_O8 c1, put, bc_some, b_count c1' c4.2.2, bo_some, J_add, wr, bo_some, bc_some]
  · rw [up2_nj (by omega)]; exact c4.1
  · rw [up2_nj (by omega)]; exact c4.2.1
  · rw [List.length_append]
    show up2 B 0 3 _ 0 3 = _
    rw [up2_eq]
    omega
  · rw [List.length_append]
    omega
  · show 0 ≤ (if (0 : Nat) = 0 ∧ (l.length : Int) ≤ j ∧ j < (l.length : Int) + l2.length then l2.getD (j - l.length).toNat 0 else A 0 j) ∧ (if (0 : Nat) = 0 ∧ (l.length : Int) ≤ j ∧ j < (l.length : Int) + l2.length then l2.getD (j - l.length).toNat 0 else A 0 j) < 128
    split
    · exact (f5 (j - l.length).toNat (by omega)).2
    · exact c6 j j0 j1
  · rw [List.length_append] at hj
    rw [getD_app]
    show (if (0 : Nat) = 0 ∧ (l.length : Int) ≤ (j : Int) ∧ (j : Int) < (l.length : Int) + l2.length then l2.getD ((j : Int) - l.length).toNat 0 else A 0 j) = _
    by_cases c : j < l.length
    · rw [if_neg (by omega), if_pos c, c7 j (by omega) (by omega)]
      exact s2 j c
    · rw [if_pos ⟨rfl, by omega, by omega⟩, if_neg c, show ((j : Int) - (l.length : Int)).toNat = j - l.length by omega]
  · have x1 := s4.new0 e4 (fun u hu => by rw [hu]; exact s3.1)
    exact (x1.new0 xx (fun u hu => by rcases hu with rfl | rfl <;> omega)).up (by omega) (by omega)
end ST9
