/-! undo, save, restore; append, lineAt -/
section QD
variable {Θ : mW} {N f b : Nat} {c k : Int} {S S' S2 : Nat → Int → Int} {h h2 : mH} {tb : Int → Nat} {vp : Int → Prop} {bO : (Int → Int) → Prop} {D G : Nat → Int → Int} {V : Int → Int} {P : Nat → Prop} {y z : Nat}
theorem undR_0 (h4 : ¬ S 0 5 ≤ 0) {j : Int} : (undR S).2 0 j = if j = 5 then S 0 5 - 1 else if j = 13 then 0 else S 0 j := by
  unfold undR
  rw [if_neg h4]
  dsimp only
  rw [cpy_o (by decide), up2_at]
  by_cases z : j = 5
  · rw [if_pos ⟨rfl, z⟩, if_pos z]
  · rw [if_neg (by omega), if_neg z, T13, up2_at]
    by_cases y : j = 13
    · rw [if_pos ⟨rfl, y⟩, if_pos y]
    · rw [if_neg (by omega), if_neg y]
theorem undR_r (h4 : ¬ S 0 5 ≤ 0) {i : Nat} (i0 : i ≠ 0) (i3 : i ≠ 1) : (undR S).2 i = S i := by
  unfold undR
  rw [if_neg h4]
  funext j
  dsimp only
  rw [cpy_o i3, up2_ne i0, T13, up2_ne i0]
theorem savR_0 {j : Int} : (savR S).2 0 j = if j = 4 then 1 else if j = 13 then 0 else S 0 j := by
  unfold savR
  dsimp only
  rw [up2_at]
  by_cases z : j = 4
  · rw [if_pos ⟨rfl, z⟩, if_pos z]
  · rw [if_neg (by omega), if_neg z, cpy_o (by decide), T13, up2_at]
    by_cases y : j = 13
    · rw [if_pos ⟨rfl, y⟩, if_pos y]
    · rw [if_neg (by omega), if_neg y]
theorem savR_r {i : Nat} (i0 : i ≠ 0) (i3 : i ≠ 3) : (savR S).2 i = S i := by
  unfold savR
  funext j
  dsimp only
  rw [up2_ne i0, cpy_o i3, T13, up2_ne i0]
theorem rstR_0 (n4 : ¬ S 0 4 = 0) {j : Int} : (rstR S).2 0 j = if j = 5 then 0 else if j = 13 then 0 else S 0 j := by
  unfold rstR
  rw [if_neg n4]
  dsimp only
  rw [up2_at]
  by_cases z : j = 5
  · rw [if_pos ⟨rfl, z⟩, if_pos z]
  · rw [if_neg (by omega), if_neg z, cpy_o (by decide), T13, up2_at]
    by_cases y : j = 13
    · rw [if_pos ⟨rfl, y⟩, if_pos y]
    · rw [if_neg (by omega), if_neg y]
theorem rstR_r (n4 : ¬ S 0 4 = 0) {i : Nat} (i0 : i ≠ 0) (i3 : i ≠ 1) : (rstR S).2 i = S i := by
  unfold rstR
  rw [if_neg n4]
  funext j
  dsimp only
  rw [up2_ne i0, cpy_o i3, T13, up2_ne i0]
theorem o_save (hN : 2000 ≤ N) (ww : ZW Θ f k h S S) : OPn Θ f k h S (P_F_save Θ N h f) (fun hh => P_R_save Θ N hh (f + 157)) := by
  obtain ⟨h2, a1, a2, a3⟩ := k_save (N := N) hN ww.1
  have n := ww.2.2.2.1.2.2.1
  exact ⟨S 1 4, (savR S).2, h2, a1, s_save hN (ww.2.2.1.1.nx a3), ww.cls a3 (by omega) (by omega) (fun u q => q.2) (a2.mono (by omega)) (by rw [savR_0]; rfl) (by rw [savR_0]; rfl) (by rw [savR_0]; exact n) (by rw [savR_0]; rfl) (by rw [savR_0]; rfl) (savR_r (by decide) (by decide)) (savR_r (by decide) (by decide))⟩
theorem o_undo (hN : 2000 ≤ N) (ww : ZW Θ f k h S S) : OQ Θ f k h S (tbl [12]) (fun _ => True) (P_F_undo Θ N h f) (fun hh => P_R_undo Θ N hh (f + 157)) := by
  have n := ww.2.2.2.1.2.2.1
  have n5 := ww.1.ok.2.1
  have q : ∀ h2, bOK Θ 9 (f + 157) h2 → _ := fun h2 hb => s_undo (N := N) (S := S) (h := h2) hN hb n5.1 n5.2
  by_cases cc : S 0 5 ≤ 0
  · have u : undR S = (0, T13 S 1) := if_pos cc
    rw [u] at q
    refine q_ex ww (T := 1) (by omega) (by omega) rfl ?_ q
    obtain ⟨a, b, r, x, F, E, Q, kk, o2, o3, o4, o5⟩ := ww.1
    have ri2 : rI Θ h 5 (f + 27) 2 = some (J (S 0 5)) := by
      rw [← o4.1.2]
      exact HB.xI kk.2.2 (i := 0) rfl rfl
    unfold P_F_undo
    rw [ww.1.r2, bo_some, ri2, bo_some, show S 0 5 = 0 by omega]
    rfl
  · obtain ⟨h2, a1, a2, a3⟩ := k_undo (N := N) ww.1 cc
    have zz : ZW Θ f (k + 1) h2 S (undR S).2 := ww.cls a3 (by omega) (by omega) (fun u q => q.2) (a2.mono (by omega)) (by rw [undR_0 cc]; rfl) (by rw [undR_0 cc]; rfl) (by rw [undR_0 cc]; exact n) (by rw [undR_0 cc]; rfl) (by rw [undR_0 cc]; rfl) (undR_r cc (by decide) (by decide)) (undR_r cc (by decide) (by decide))
    refine ⟨S 0 5 - 1, 0, h2, a1, by omega, fun z => (z rfl).elim, fun _ => trivial, ⟨_, zz⟩, fun h3 hb => ⟨_, _, q h3 hb, by rw [undR_0 cc]; rfl, fun _ => ?_, zz⟩⟩
    unfold undR
    rw [if_neg cc]
theorem o_restore (hN : 2000 ≤ N) (ww : ZW Θ f k h S S) : OQ Θ f k h S (tbl [12]) (fun _ => True) (P_F_restore Θ N h f) (fun hh => P_R_restore Θ N hh (f + 157)) := by
  have n := ww.2.2.2.1.2.2.1
  have n5 := ww.1.ok.2.2
  have q : ∀ h2, bOK Θ 9 (f + 157) h2 → _ := fun h2 hb => s_restore (N := N) (S := S) (h := h2) hN hb n5
  by_cases cc : S 0 4 = 0
  · have u : rstR S = (0, T13 S 1) := if_pos cc
    rw [u] at q
    refine q_ex ww (T := 1) (by omega) (by omega) rfl ?_ q
    unfold P_F_restore
    rw [ww.1.r4, bo_some, cc]
    rfl
  · obtain ⟨h2, a1, a2, a3⟩ := k_restore (N := N) hN ww.1 (by omega)
    have zz : ZW Θ f (k + 1) h2 S (rstR S).2 := ww.cls a3 (by omega) (by omega) (fun u q => q.2) (a2.mono (by omega)) (by rw [rstR_0 cc]; rfl) (by rw [rstR_0 cc]; rfl) (by rw [rstR_0 cc]; exact n) (by rw [rstR_0 cc]; rfl) (by rw [rstR_0 cc]; rfl) (rstR_r cc (by decide) (by decide)) (rstR_r cc (by decide) (by decide))
    refine ⟨S 3 4, 0, h2, a1, by omega, fun z => (z rfl).elim, fun _ => trivial, ⟨_, zz⟩, fun h3 hb => ⟨_, _, q h3 hb, by rw [rstR_0 cc]; rfl, fun _ => ?_, zz⟩⟩
    unfold rstR
    rw [if_neg cc]
/-- append, lineAt of the reference -/
theorem q_append {m : Nat} (hb : bOK Θ 9 m h) (n10 : 0 ≤ S 0 10 ∧ S 0 10 ≤ 60) {a : Int} (a1 : 0 ≤ a) (a2 : a < 65536) : P_R_append Θ N (HR Θ m S h) m (J a) = if ¬ (32 ≤ a ∧ a ≤ 126) then some (J 0, HR Θ m (T13 S 1) h) else if 60 ≤ S 0 10 then some (J 0, HR Θ m (T13 S 2) h) else some (J (S 0 10 + 1), HR Θ m (up2 (up2 (T13 S 0) 5 (S 0 10) a) 0 10 (S 0 10 + 1)) h) := by
  unfold P_R_append
  rw [s_isIn (by omega) (by omega) (by omega) (by omega) (by omega) (by omega), bc_some, r_I10 hb, bo_some]
  have t10 : T13 S 0 0 10 = S 0 10 := T13_j (by decide)
  by_cases c1 : 32 ≤ a ∧ a ≤ 126
  · rw [if_pos c1, if_neg (show ¬ ¬ (32 ≤ a ∧ a ≤ 126) from fun z => z c1), jn_eq]
    by_cases c2 : 60 ≤ S 0 10
    · rw [if_pos (show J 60 ≤ J (S 0 10) by rw [J_le] <;> omega), if_pos c2]
      dsimp only
      rw [r_O hb, s_holdsT hb (Or.inr rfl) (Or.inl rfl) (Or.inr rfl) (Or.inr rfl), bc_some]
      rfl
    · rw [if_neg (show ¬ J 60 ≤ J (S 0 10) by rw [J_le] <;> omega), if_neg c2]
      dsimp only
      rw [r_O hb, s_holdsT hb (Or.inr rfl) (Or.inr rfl) (Or.inr rfl) (Or.inr rfl), bc_some]
      have th : thr 1 1 1 1 = 0 := rfl
      rw [th, if_pos rfl, if_neg (show ¬ J 1 = (0 : Int32) by decide), r_A9 hb, bo_some, r_I10 hb, bo_some, t10, r_w5 hb n10.1 (by omega), bo_some, r_I10 hb, bo_some, up2_ne (by decide), t10, J_add, r_W10 hb, bo_some, r_I10 hb, bo_some, up2_eq]
  · rw [if_neg c1, if_pos c1, jn_eq]
    split
    all_goals
      dsimp only
      rw [r_O hb, s_holdsT hb (Or.inl rfl) (by simp) (Or.inr rfl) (Or.inr rfl), bc_some]
      rfl
theorem q_lineAt {m : Nat} (hb : bOK Θ 9 m h) (n12 : 0 ≤ S 0 12 ∧ S 0 12 ≤ 60) (hl : ∀ j : Int, 0 ≤ j → j < S 0 12 → 0 ≤ S 6 j ∧ S 6 j < 128) {a : Int} (a1 : int' a) : P_R_lineAt Θ N (HR Θ m S h) m (J a) = if 0 ≤ a ∧ a ≤ S 0 12 - 1 then some (J (S 6 a), HR Θ m (T13 S 0) h) else some (J 0, HR Θ m (T13 S 1) h) := by
  unfold P_R_lineAt
  rw [r_I12 hb, bo_some, J_sub, s_isIn a1.1 a1.2 (by omega) (by omega) (by omega) (by omega), bc_some, r_O hb]
  by_cases c1 : 0 ≤ a ∧ a ≤ S 0 12 - 1
  · have l := hl a c1.1 (by omega)
    rw [if_pos c1, if_pos c1, s_goesT hb (Or.inr rfl), bc_some, if_neg (show ¬ J 1 = (0 : Int32) by decide), show (1 : Int) - 1 = 0 from rfl, r_A11 hb, bo_some, r_a6 hb c1.1 (by omega), bo_some, T13_o (by decide), J_chr l.1 (by omega), if_pos (chr_rng l.1 (by omega))]
  · rw [if_neg c1, if_neg c1, s_goesT hb (Or.inl rfl), bc_some]
    rfl
theorem zw_sb {q v : Nat} {n : Int} {β : Int → Int} (hs : SBs Θ q v n β h) : v < mwB Θ + h.length ∧ mwB Θ ≤ v := by
  obtain ⟨B, A, cap, -, h2, -⟩ := hs
  have := h2.1
  exact ⟨by have := this.2; simp at this; omega, this.1⟩
theorem o_lineAt {a : Int} (ha : int' a) (ww : ZW Θ f k h S S) : OQ Θ f k h S (tbl [14]) (fun _ => True) (P_F_lineAt Θ N h f (J a)) (fun hh => P_R_lineAt Θ N hh (f + 157) (J a)) := by
  obtain ⟨v1, v2, T, U, w1, w2, w3⟩ := ww.2.1.1
  have n := ww.2.2.2.1.2.1
  have q : ∀ h2, bOK Θ 9 (f + 157) h2 → _ := fun h2 hb => q_lineAt (N := N) (S := S) (h := h2) hb n (fun j j0 j1 => sb_rng w2 j0 j1) ha
  have e : P_F_lineAt Θ N h f (J a) = if 0 ≤ a ∧ a ≤ S 0 12 - 1 then some (.inl (J (S 6 a)), h) else some (.inr 14, h ++ [oB 14 []]) := by
    unfold P_F_lineAt
    by_cases c0 : a < 0
    · rw [if_pos (by rw [J_lt0 ha.1 ha.2]; exact c0), if_neg (by omega)]
      rfl
    · rw [if_neg (by rw [J_lt0 ha.1 ha.2]; exact c0), ww.1.r7, bo_some, sb_O w2, sb_length w2, bc_some]
      by_cases c1 : a < S 0 12
      · have l := sb_rng w2 (j := a) (by omega) c1
        rw [if_pos (by rw [J_lt ha.1 ha.2 (by omega) (by omega)]; exact c1), if_pos (by omega), ww.1.r7, bo_some, sb_O w2, sb_charAt w2 (by omega) c1, bc_some, if_pos (chr_rng l.1 (by omega))]
      · rw [if_neg (by rw [J_lt ha.1 ha.2 (by omega) (by omega)]; exact c1), if_neg (by omega)]
        rfl
  by_cases cc : 0 ≤ a ∧ a ≤ S 0 12 - 1
  · simp only [if_pos cc] at q e
    exact q_ok ww e q trivial
  · simp only [if_neg cc] at q e
    exact q_ex ww (T := 1) (by omega) (by omega) rfl e q
theorem o_append {a : Int} (a0 : 0 ≤ a) (a1 : a < 65536) (ww : ZW Θ f k h S S) : OQ Θ f k h S (tbl [11, 12]) (fun _ => True) (P_F_append Θ N h f (J a)) (fun hh => P_R_append Θ N hh (f + 157) (J a)) := by
  obtain ⟨wk, ⟨⟨v1, v2, T, U, w1, w2, w3⟩, ⟨G, wg⟩, wo, wd⟩, wr, wn, wz⟩ := id ww
  obtain ⟨n1, n2, n3, n4, n5⟩ := id wn
  have q : ∀ h2, bOK Θ 9 (f + 157) h2 → _ := fun h2 hb => q_append (N := N) (S := S) (h := h2) hb ⟨n1.1, n1.2.1⟩ a0 a1
  have e0 : P_F_append Θ N h f (J a) = bx (P_T_add Θ N h (f + 151) (J a)) (fun v3 h2 => some (.inl v3, h2)) (fun n9 h9 => xp n9 h9) := by
    unfold P_F_append
    rw [wk.r6, bo_some, ct_O w1]
  by_cases c1 : ¬ (32 ≤ a ∧ a ≤ 126)
  · simp only [if_pos c1] at q
    refine q_ex ww (T := 1) (by omega) (by omega) rfl (e0.trans ?_) q
    unfold P_T_add
    by_cases c0 : a < 32
    · rw [if_pos (show J a < J 32 by rw [J_lt] <;> omega)]
      rfl
    · rw [if_neg (show ¬ J a < J 32 by rw [J_lt] <;> omega), if_neg (show ¬ J a ≤ J 126 by rw [J_le] <;> omega)]
      rfl
  · simp only [if_neg c1] at q
    have e1 : P_T_add Θ N h (f + 151) (J a) = (if J (S 0 10) < J 60 then (bo (rA Θ h 7 (f + 151) 0) (fun v4 => (gO Θ h 8 v4 (bc (P_SB_append_C Θ N h v4 (J a)) (fun v6 h5 => (bo (rA Θ h5 7 (f + 151) 0) (fun v7 => (gO Θ h5 8 v7 (bc (P_SB_length Θ N h5 v7) (fun v9 h8 => (some (.inl v9, h8)))))))))))) else (xp 12 (h ++ [oB 12 []]))) := by
      unfold P_T_add
      rw [if_neg (show ¬ J a < J 32 by rw [J_lt] <;> omega), if_pos (show J a ≤ J 126 by rw [J_le] <;> omega), ct_q w1, bo_some, sb_O w1.2.2.1, ct_len w1, bc_some, ct_q w1]
    by_cases c2 : 60 ≤ S 0 10
    · simp only [if_pos c2] at q
      refine q_ex ww (T := 2) (by omega) (by omega) rfl (e0.trans ?_) q
      rw [e1, if_neg (by rw [J_lt] <;> omega)]
      rfl
    · simp only [if_neg c2] at q
      obtain ⟨v, h2, p1, p2, p3, p4⟩ := sb_putC (N := N) w1.2.2.1 (a := a) a0 (by omega) (by omega)
      have l2 := zw_sb w2
      have lg := gt_lt wd.choose_spec
      have lg2 := (gt_some wd.choose_spec).1
      have w1' : CT Θ (f + 151) (f + 154) (f + 152) v (S 0 10 + 1) (up1 (S 5) (S 0 10) a) T U h2 := by
        obtain ⟨t1, t2, t3, t4, t5⟩ := w1
        refine ⟨t1.nx p4 (fun u u1 u2 => ?_), t2.nx p4 (fun u u1 u2 => ?_), p2, t4, ?_⟩
        · have : shT.length = 1 := rfl
          omega
        · have : shN.length = 1 := rfl
          omega
        · rcases p3 with z | z <;> omega
      have zz : ZW Θ f (k + 1) h2 S (up2 (up2 (T13 S 0) 5 (S 0 10) a) 0 10 (S 0 10 + 1)) := by
        have ea : ∀ i : Nat, i ≠ 0 → i ≠ 5 → up2 (up2 (T13 S 0) 5 (S 0 10) a) 0 10 (S 0 10 + 1) i = S i := fun i i0 i5 => by rw [up2_row i0, up2_row i5, T13_o i0]
        have ej : ∀ j : Int, j ≠ 10 → j ≠ 13 → up2 (up2 (T13 S 0) 5 (S 0 10) a) 0 10 (S 0 10 + 1) 0 j = S 0 j := fun j j1 j2 => by rw [up2_nj j1, up2_ne (by decide), T13_j j2]
        have e10 : up2 (up2 (T13 S 0) 5 (S 0 10) a) 0 10 (S 0 10 + 1) 0 10 = S 0 10 + 1 := up2_eq
        have e5 : up2 (up2 (T13 S 0) 5 (S 0 10) a) 0 10 (S 0 10 + 1) 5 = up1 (S 5) (S 0 10) a := by
          rw [up2_row (by decide)]
          funext j
          unfold up2
          rw [if_pos rfl, T13_o (by decide)]
        refine zw_g ww p4 (by omega) (by omega) (fun u hu => by omega) ?_ ⟨v, v2, T, U, by rw [e10, e5]; exact w1', ?_, ?_⟩ ⟨G, wg.nx p4 (fun u u1 u2 => by have : shG.length = 5 := rfl; omega)⟩ ?_
        · rw [e10, show k + 1 - (S 0 10 + 1) = k - S 0 10 by omega]
          exact (wk.nx p4 (fun u hu => by unfold KR at hu; omega)).sm ⟨ej 4 (by decide) (by decide), ej 5 (by decide) (by decide), ej 6 (by decide) (by decide), ej 7 (by decide) (by decide), ej 8 (by decide) (by decide), ea 1 (by decide) (by decide), ea 3 (by decide) (by decide), ea 4 (by decide) (by decide)⟩
        · rw [ej 12 (by decide) (by decide), ea 6 (by decide) (by decide)]
          exact sb_nx w2 p4 (by omega) (by omega)
        · rcases p3 with z | z <;> omega
        · unfold WN
          rw [e10, ej 12 (by decide) (by decide), ej 8 (by decide) (by decide), ej 6 (by decide) (by decide), ej 7 (by decide) (by decide)]
          exact ⟨by omega, n2, n3, n4, n5⟩
      refine ⟨S 0 10 + 1, 0, h2, ?_, by omega, fun z => (z rfl).elim, fun _ => trivial, ⟨_, zz⟩, fun h3 hb => ⟨_, _, q h3 hb, ?_, fun _ => rfl, zz⟩⟩
      · rw [e0, e1, if_pos (by rw [J_lt] <;> omega), ct_q w1, bo_some, sb_O w1.2.2.1, p1, bc_some, ct_q w1', bo_some, sb_O p2, sb_length p2, bc_some, bx_inl]
        rfl
      · rw [up2_nj (by decide), up2_ne (by decide), T13_t]
end QD
