/-! changes start and are kept; undo, save, restore -/
section KY0
variable {Θ : mW} {y : Nat} {Q : Nat → Int → Int} {h : mH}
abbrev HY (Θ : mW) (y : Nat) (Q : Nat → Int → Int) (h : mH) : mH := BK Θ shY y Q h
theorem y_A0 (hb : bOK Θ 2 y h) : rA Θ (HY Θ y Q h) 5 y 0 = some (y + 1) := g_rA (i := 0) rfl rfl hb
theorem y_I1 (hb : bOK Θ 2 y h) : rI Θ (HY Θ y Q h) 5 y 1 = some (J (Q 0 1)) := g_rI (i := 0) rfl rfl hb
theorem y_I2 (hb : bOK Θ 2 y h) : rI Θ (HY Θ y Q h) 5 y 2 = some (J (Q 0 2)) := g_rI (i := 0) rfl rfl hb
theorem y_W1 (hb : bOK Θ 2 y h) {v : Int} : wF Θ (HY Θ y Q h) 5 y 1 (.int (J v)) = some (HY Θ y (up2 Q 0 1 v) h) := g_wI (i := 0) rfl rfl hb
theorem y_W2 (hb : bOK Θ 2 y h) {v : Int} : wF Θ (HY Θ y Q h) 5 y 2 (.int (J v)) = some (HY Θ y (up2 Q 0 2 v) h) := g_wI (i := 0) rfl rfl hb
theorem y_Q (hb : bOK Θ 2 y h) {x : Int} (h0 : 0 ≤ x) (h1 : x < 8) : aRQ Θ (HY Θ y Q h) 6 (y + 1) (J x) = some (Q 1 x).toNat := g_aRB (i := 1) (n := 8) rfl (by omega) hb h0 h1
theorem y_P (hb : bOK Θ 2 y h) {x : Int} {v : Nat} {fs : List Value} (hv : gt Θ h v = some (oB 1 fs)) (hn : v < y ∨ y + 2 ≤ v) (h0 : 0 ≤ x) (h1 : x < 8) : aWQ Θ (HY Θ y Q h) 6 1 (y + 1) (J x) v = some (HY Θ y (up2 Q 1 x v) h) := by
  refine g_aWB (i := 1) (n := 8) (fs := fs) rfl ?_ (by omega) hb h0 h1
  rw [BK_gt hb, if_neg (by have : shY.length = 2 := rfl; omega)]
  exact hv
theorem y_O (hb : bOK Θ 2 y h) {ρ : Type} {p : Option ρ} : gO Θ (HY Θ y Q h) 5 y p = p := g_gO (i := 0) rfl hb
end KY0
section KY
variable {Θ : mW} {N f m : Nat} {c c2 : Int} {S S2 : Nat → Int → Int} {h h2 : mH} {bO : (Int → Int) → Prop} {F Q : Nat → Int → Int} {E : Nat → Nat → Int → Int} {a b : Nat} {r : Int → Nat} {x : Int} {V V2 : Int → Int} {D : Nat → Int → Int}
def edk (E : Nat → Nat → Int → Int) (i : Nat) (D : Nat → Int → Int) : Nat → Nat → Int → Int := fun q => if q = i then D else E q
theorem edk_eq {i : Nat} : edk E i D i = D := if_pos rfl
theorem edk_ne {i q : Nat} (hn : q ≠ i) : edk E i D q = E q := if_neg hn
theorem kh_upd (k : KH Θ f h F E Q) {i : Nat} (hi : i < 11) : KH Θ f (HD Θ (f + dk i) D h) F (edk E i D) Q := by
  obtain ⟨k1, k2, k3⟩ := k
  have hb := (k2 i hi).1
  have dr := dk_rng hi
  have hL : shD.length = 13 := rfl
  refine ⟨k1.other hb (by have : shF.length = 1 := rfl; omega), fun q hq => ?_, k3.other hb (by have : shY.length = 2 := rfl; omega)⟩
  by_cases e : q = i
  · subst e
    rw [edk_eq]
    exact HB.self hb
  · rw [edk_ne e]
    have := dk_dis hq hi e
    exact (k2 q hq).other hb (by omega)
theorem kh_nx (k : KH Θ f h F E Q) {i : Nat} (hi : i < 11) : Nx Θ h (HD Θ (f + dk i) D h) (KR f) 0 0 := by
  have dr := dk_rng hi
  have hL : shD.length = 13 := rfl
  exact (Nx.bk (k.2.1 i hi)).wid (fun x _ p => ⟨by omega, by omega⟩) (Nat.le_refl _) (Nat.le_refl _)
theorem kh_r0 (k : KH Θ f h F E Q) (o : KF f S a b F) : rA Θ h 0 f 0 = some (f + dk a) := by
  have := HB.xB k.1 (i := 0) (k := 0) rfl rfl
  rwa [show F 0 ((0 : Nat) : Int) = (f + dk a : Nat) from o.1.1, Int.toNat_natCast] at this
theorem kh_r1 (k : KH Θ f h F E Q) (o : KF f S a b F) : rA Θ h 0 f 1 = some (f + dk b) := by
  have := HB.xB k.1 (i := 0) (k := 1) rfl rfl
  rwa [show F 0 ((1 : Nat) : Int) = (f + dk b : Nat) from o.1.2.1, Int.toNat_natCast] at this
/-- a dock is copied onto another -/
theorem kh_copy (hN : 2000 ≤ N) (k : KH Θ f h F E Q) {i j : Nat} (hi : i < 11) (hj : j < 11) (hn : i ≠ j) (hp : PM (E i)) (hd : DV (E j) V) (I : In c V) : ∃ D, P_D_copyFrom Θ N h (f + dk i) (f + dk j) = some ((), HD Θ (f + dk i) D h) ∧ DV D V := by
  have dd := dk_dis hi hj hn
  obtain ⟨D, q1, q2⟩ := c_copy (N := N) hN (k.2.1 i hi).1 (k.2.1 j hj) (by omega) hp hd I
  rw [(k.2.1 i hi).hd] at q1
  exact ⟨D, q1, q2⟩
theorem kh_O (k : KH Θ f h F E Q) {i : Nat} (hi : i < 11) {ρ : Type} {p : Option ρ} : gO Θ h 1 (f + dk i) p = p := HB.xO (k.2.1 i hi) (i := 0) rfl
theorem k_start (hN : 2000 ≤ N) (w : KX Θ f c h S bO) : ∃ h2, P_F_startChange Θ N h f = some ((), h2) ∧ KX Θ f c h2 S (fun B => B = S 1) ∧ Nx Θ h h2 (KR f) 0 0 := by
  obtain ⟨a, b, r, x, F, E, Q, k, o2, o3, o4, p1, p2, p4, p5, p6, p7⟩ := w
  obtain ⟨⟨a10, b10, ab⟩, r10, rr⟩ := o3
  obtain ⟨D, q1, q2⟩ := kh_copy (N := N) hN k (i := b) (j := a) (by omega) (by omega) (Ne.symm ab) (p1 b (by omega)) p2.1 p2.2
  refine ⟨_, ?_, ⟨a, b, r, x, F, edk E b D, Q, kh_upd k (by omega), o2, ⟨⟨a10, b10, ab⟩, r10, rr⟩, o4, fun i hi => ?_, ?_, fun B hB => ?_, fun e e0 e1 => ?_, p6, fun g => ?_⟩, kh_nx k (by omega)⟩
  · unfold P_F_startChange
    rw [kh_r1 k o2, bo_some, kh_r0 k o2, bo_some, kh_O k (by omega), q1, bc_some]
  · by_cases z : i = b
    · subst z; rw [edk_eq]; exact q2.pm
    · rw [edk_ne z]; exact p1 i hi
  · rw [edk_ne ab]; exact p2
  · rw [edk_eq, hB]
    exact ⟨S 1, q2, p2.2, fun _ _ _ => rfl⟩
  · have := r10 ((x - S 0 5 + e) % 8) (by omega) (by omega)
    rw [edk_ne this.2.2]; exact p5 e e0 e1
  · rw [edk_ne (by omega)]; exact p7 g
theorem remR_0 {j : Int} (hj : j ≠ 5) : remR S 0 j = S 0 j := by
  unfold remR
  split
  · rw [up2_nj hj, cpy_o (by decide), up2_nj hj, hsh_at, if_neg (by omega)]
  · rw [up2_nj hj, cpy_o (by decide)]
theorem remR_5 (h5 : S 0 5 ≤ 8) : remR S 0 5 = min 8 (S 0 5 + 1) := by
  unfold remR
  split
  · rw [up2_eq]; omega
  · rw [up2_eq]; omega
theorem remR_o {i : Nat} (h0 : i ≠ 0) (h4 : i ≠ 4) : remR S i = S i := by
  unfold remR
  funext j
  split
  · rw [up2_ne h0, cpy_o h4, up2_ne h0, hsh_at, if_neg (by omega)]
  · rw [up2_ne h0, cpy_o h4]
theorem remR_4 {e j : Int} (h5 : 0 ≤ S 0 5 ∧ S 0 5 ≤ 8) (e0 : 0 ≤ e) (e1 : e < remR S 0 5) (j0 : 0 ≤ j) (j1 : j < 140) : remR S 4 (140 * e + j) = if e = remR S 0 5 - 1 then S 2 j else S 4 (140 * (e + (S 0 5 + 1 - remR S 0 5)) + j) := by
  rw [remR_5 h5.2] at e1 ⊢
  unfold remR
  by_cases z : S 0 5 = 8
  · rw [if_pos z, up2_ne (by decide), cpy_at]
    by_cases y : e = min 8 (S 0 5 + 1) - 1
    · rw [if_pos (by omega), if_pos y, up2_ne (by decide), hsh_at, if_neg (by omega), show 0 + (140 * e + j - 980) = j by omega]
    · rw [if_neg (by omega), if_neg y, up2_ne (by decide), hsh_at, if_pos (by omega)]
      exact congrArg (S 4) (by omega)
  · rw [if_neg z, up2_ne (by decide), cpy_at]
    by_cases y : e = min 8 (S 0 5 + 1) - 1
    · rw [if_pos (by omega), if_pos y]
      exact congrArg (S 2) (by omega)
    · rw [if_neg (by omega), if_neg y]
      exact congrArg (S 4) (by omega)
theorem k_keep (w : KX Θ f c h S (fun B => B = V)) (hV : ∀ j : Int, 0 ≤ j → j < 140 → S 2 j = V j) : ∃ h2, P_F_keepChange Θ N h f = some ((), h2) ∧ KX Θ f c h2 (remR S) (fun _ => False) ∧ Nx Θ h h2 (KR f) 0 0 := by
  have r2 := w.r2
  obtain ⟨a, b, r, x, F, E, Q, k, o2, ⟨⟨a10, b10, ab⟩, r10, rr⟩, ⟨⟨o41, o42⟩, o43, o44, o45⟩, p1, p2, p4, p5, p6, p7⟩ := w
  have hb : bOK Θ 2 (f + 27) h := k.2.2.1
  have hy : HY Θ (f + 27) Q h = h := k.2.2.2
  have db := dk_rng (i := b) (by omega)
  have hv : ∃ fs, gt Θ h (f + dk b) = some (oB 1 fs) := ⟨_, (k.2.1 b (by omega)).at (i := 0) rfl⟩
  obtain ⟨fs, hv⟩ := hv
  have rx := r10 x o43.1 o43.2
  have eq1 : (Q 1 x).toNat = f + dk (r x) := by rw [o45 x o43.1 o43.2, Int.toNat_natCast]
  have hF1 : shF.length = 1 := rfl
  have hY2 : shY.length = 2 := rfl
  have hD13 : shD.length = 13 := rfl
  have push : P_H_push Θ N h (f + 27) (f + dk b) = some (f + dk (r x), HY Θ (f + 27) (up2 (up2 (up2 Q 1 x (f + dk b : Nat)) 0 1 ((x + 1) % 8)) 0 2 (min 8 (S 0 5 + 1))) h) := by
    rw [← hy]
    unfold P_H_push
    rw [y_A0 hb, bo_some, y_I1 hb, bo_some, o41, y_Q hb o43.1 o43.2, bo_some, bo_some, bo_some, eq1, y_P hb hv (by omega) o43.1 o43.2, bo_some, y_I1 hb, bo_some, up2_ne (by decide), o41, J_add, J_div (by omega) (by omega) (by omega) (by omega), J_mul, J_sub, show x + 1 - (x + 1) / 8 * 8 = (x + 1) % 8 by omega, y_W1 hb, bo_some, y_I2 hb, bo_some, up2_nj (by decide), up2_ne (by decide), o42, J_add, J_mn (by omega) (by omega) (by omega) (by omega), y_W2 hb, bo_some, hy]
  have k1' := k.1.other (D2 := up2 (up2 (up2 Q 1 x (f + dk b : Nat)) 0 1 ((x + 1) % 8)) 0 2 (min 8 (S 0 5 + 1))) (k.2.2.1) (by omega)
  have wr := HB.xG k1' (i := 0) (ci := 0) (k := 1) (w := f + dk (r x)) rfl rfl
  have hz : remR S 0 5 - 1 = min 8 (S 0 5 + 1) - 1 := by rw [remR_5 o44.2]
  refine ⟨_, ?_, ⟨a, r x, fun i => if i = x then b else r i, (x + 1) % 8, up2 F 0 1 (f + dk (r x) : Nat), E, up2 (up2 (up2 Q 1 x (f + dk b : Nat)) 0 1 ((x + 1) % 8)) 0 2 (min 8 (S 0 5 + 1)), ⟨HB.self k1'.1, fun i hi => ?_, ?_⟩, ?_, ⟨⟨a10, rx.1, Ne.symm rx.2.1⟩, fun i i0 i1 => ?_, fun i j i0 i1 j0 j1 ij => ?_⟩, ⟨⟨?_, ?_⟩, ⟨by omega, by omega⟩, ⟨by rw [remR_5 o44.2]; omega, by rw [remR_5 o44.2]; omega⟩, fun i i0 i1 => ?_⟩, p1, ?_, fun B hB => hB.elim, fun e e0 e1 => ?_, ?_, fun g => ?_⟩, ?_⟩
  · unfold P_F_keepChange
    rw [r2, bo_some, kh_r1 k o2, bo_some, show gO Θ h 5 (f + 27) = gO Θ (HY Θ (f + 27) Q h) 5 (f + 27) by rw [hy], y_O hb, push, bc_some]
    exact (congrArg (fun q => bo q _) wr).trans rfl
  · have d := dk_rng hi
    exact ((k.2.1 i hi).other k.2.2.1 (by omega)).other k1'.1 (by omega)
  · exact (HB.self k.2.2.1).other k1'.1 (by omega)
  · unfold KF at o2 ⊢
    rw [remR_0 (by decide), remR_0 (by decide), remR_0 (by decide), remR_0 (by decide)]
    simp [up2_at] at o2 ⊢
    simp_all
  · dsimp only
    by_cases z : i = x
    · rw [if_pos z]; exact ⟨b10, Ne.symm ab, Ne.symm rx.2.2⟩
    · rw [if_neg z]
      have := r10 i i0 i1
      exact ⟨this.1, this.2.1, rr i x i0 i1 o43.1 o43.2 z⟩
  · dsimp only
    by_cases z : i = x
    · rw [if_pos z, if_neg (by omega)]
      exact Ne.symm (r10 j j0 j1).2.2
    · rw [if_neg z]
      by_cases z2 : j = x
      · rw [if_pos z2]; exact (r10 i i0 i1).2.2
      · rw [if_neg z2]; exact rr i j i0 i1 j0 j1 ij
  · rw [up2_nj (by decide), up2_eq]
  · rw [up2_eq, remR_5 o44.2]
  · dsimp only
    rw [up2_ne (by decide), up2_ne (by decide), up2_at]
    by_cases z : i = x
    · rw [if_pos ⟨rfl, z⟩, if_pos z]
    · rw [if_neg (by omega), if_neg z]
      exact o45 i i0 i1
  · rw [remR_o (by decide) (by decide)]
    exact p2
  · dsimp only
    have r5 := remR_5 o44.2
    by_cases z : e = remR S 0 5 - 1
    · rw [if_pos (by omega)]
      refine (p4 V rfl).cong (fun j j0 j1 => ?_)
      rw [remR_4 o44 e0 e1 j0 j1, if_pos z, hV j j0 j1]
    · rw [if_neg (by omega)]
      have := p5 (e + (S 0 5 + 1 - remR S 0 5)) (by omega) (by omega)
      rw [show (x - S 0 5 + (e + (S 0 5 + 1 - remR S 0 5))) % 8 = ((x + 1) % 8 - remR S 0 5 + e) % 8 by omega] at this
      refine this.cong (fun j j0 j1 => ?_)
      rw [remR_4 o44 e0 e1 j0 j1, if_neg z]
  · rw [remR_0 (by decide)]; exact p6
  · rw [remR_0 (by decide)] at g
    rw [remR_o (by decide) (by decide)]
    exact p7 g
  · refine (((Nx.bk k.2.2).wid (Q := KR f) (fun q _ p => ⟨by omega, by omega⟩) (Nat.le_refl _) (Nat.le_refl _)).trans ((Nx.bk k1').wid (Q := KR f) (fun q _ p => ⟨by omega, by omega⟩) (Nat.le_refl _) (Nat.le_refl _))).up (Nat.le_refl 0) (Nat.le_refl 0)
end KY
