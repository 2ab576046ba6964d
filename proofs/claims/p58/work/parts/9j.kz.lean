/-! undo, save, restore of the class -/
section KZ
variable {Θ : mW} {N f m : Nat} {c c2 : Int} {S S2 : Nat → Int → Int} {h h2 : mH} {bO : (Int → Int) → Prop} {F Q : Nat → Int → Int} {E : Nat → Nat → Int → Int} {a b : Nat} {r : Int → Nat} {x : Int} {V V2 : Int → Int} {D : Nat → Int → Int}
theorem In.ok (I : In c V) : ∀ j, -100000000 ≤ V j ∧ V j ≤ 100000000 := I.1.1
theorem ok_mix {j0 : Int} (I : In c V) {U : Int → Int} (u : NV c D (fun j => U (j0 + j))) : ∀ j, -100000000 ≤ (if 0 ≤ j ∧ j < 140 then U (j0 + j) else V j) ∧ (if 0 ≤ j ∧ j < 140 then U (j0 + j) else V j) ≤ 100000000 := by
  intro j
  obtain ⟨W, -, I2, e⟩ := u
  by_cases z : 0 ≤ j ∧ j < 140
  · rw [if_pos z]
    have := e j z.1 z.2
    dsimp only at this
    rw [← this]
    exact I2.ok j
  · rw [if_neg z]; exact I.ok j
theorem k_count (k : KH Θ f h F E Q) {i : Nat} (hi : i < 11) (d : DV (E i) V) : rA Θ h 1 (f + dk i) 0 = some (f + dk i + 1) ∧ rI Θ h 2 (f + dk i + 1) 1 = some (J (V 4)) := by
  refine ⟨HB.xA (k.2.1 i hi) (i := 0) rfl rfl, ?_⟩
  rw [← d.sc.2.2.2.2.1]
  exact HB.xI (k.2.1 i hi) (i := 1) rfl rfl
theorem k_save (hN : 2000 ≤ N) (w : KX Θ f c h S bO) : ∃ h2, P_F_save Θ N h f = some (J (S 1 4), h2) ∧ KX Θ f c h2 (savR S).2 (fun _ => False) ∧ Nx Θ h h2 (KR f) 0 0 := by
  have r3 := w.r3
  obtain ⟨a, b, r, x, F, E, Q, k, o2, o3, o4, p1, p2, p4, p5, p6, p7⟩ := w
  obtain ⟨⟨a10, b10, ab⟩, r10, rr⟩ := id o3
  obtain ⟨D, q1, q2⟩ := kh_copy (N := N) hN k (i := 10) (j := a) (by omega) (by omega) (by omega) (p1 10 (by omega)) p2.1 p2.2
  have k2 := kh_upd (D := D) k (i := 10) (by omega)
  have hF1 : shF.length = 1 := rfl
  have wr := HB.xF k2.1 (i := 0) (ci := 0) (k := 4) (w := 1) rfl rfl
  have hb1 := k2.1.1
  have k3 : KH Θ f (BK Θ shF f (up2 F 0 4 1) (HD Θ (f + dk 10) D h)) (up2 F 0 4 1) (edk E 10 D) Q := by
    refine ⟨HB.self hb1, fun i hi => ?_, k2.2.2.other hb1 (by omega)⟩
    have d := dk_rng hi
    exact (k2.2.1 i hi).other hb1 (by omega)
  have e0 : ∀ j : Int, (savR S).2 0 j = if j = 4 then 1 else if j = 13 then 0 else S 0 j := fun j => by
    unfold savR
    dsimp only
    rw [up2_at]
    by_cases z : j = 4
    · rw [if_pos ⟨rfl, z⟩, if_pos z]
    · rw [if_neg (by omega), if_neg z, cpy_o (by decide), T13, up2_at]
      by_cases y : j = 13
      · rw [if_pos ⟨rfl, y⟩, if_pos y]
      · rw [if_neg (by omega), if_neg y]
  have e1 : ∀ i : Nat, i ≠ 0 → i ≠ 3 → (savR S).2 i = S i := fun i i0 i3 => by
    unfold savR
    funext j
    dsimp only
    rw [up2_ne i0, cpy_o i3, T13, up2_ne i0]
  have e3 : ∀ j : Int, 0 ≤ j → j < 140 → (savR S).2 3 j = S 1 j := fun j j0 j1 => by
    unfold savR
    dsimp only
    rw [up2_ne (by decide), cpy_at, if_pos (by omega), T13, up2_ne (by decide)]
    exact congrArg (S 1) (by omega)
  have o2' : KF f (savR S).2 a b (up2 F 0 4 1) := by
    unfold KF at o2 ⊢
    simp [e0, up2_at] at o2 ⊢
    simp_all
  have cn := k_count k3 (i := a) (by omega) (V := S 1) (by rw [edk_ne (by omega)]; exact p2.1)
  refine ⟨_, ?_, ⟨a, b, r, x, up2 F 0 4 1, edk E 10 D, Q, k3, o2', o3, ?_, fun i hi => ?_, ?_, fun B hB => hB.elim, fun e u0 u1 => ?_, ?_, fun g => ?_⟩, ?_⟩
  · unfold P_F_save
    rw [r3, bo_some, kh_r0 k o2, bo_some, show gO Θ h 1 (f + 133) = gO Θ h 1 (f + dk 10) from rfl, kh_O k (by omega), show f + 133 = f + dk 10 from rfl, q1, bc_some, show wF Θ (HD Θ (f + dk 10) D h) 0 f 4 (.int (J 1)) = some (BK Θ shF f (up2 F 0 4 1) (HD Θ (f + dk 10) D h)) from wr, bo_some, kh_r0 k3 o2', bo_some, cn.1, bo_some, cn.2, bo_some]
  · unfold KQ at o4 ⊢
    rw [e0, if_neg (by decide), if_neg (by decide)]
    exact o4
  · by_cases z : i = 10
    · subst z; rw [edk_eq]; exact q2.pm
    · rw [edk_ne z]; exact p1 i hi
  · rw [edk_ne (by omega), e1 1 (by decide) (by decide)]; exact p2
  · rw [e0, if_neg (by decide), if_neg (by decide)] at u1 ⊢
    rw [e1 4 (by decide) (by decide)]
    have := r10 ((x - S 0 5 + e) % 8) (by omega) (by omega)
    rw [edk_ne (by omega)]; exact p5 e u0 u1
  · rw [e0, if_pos rfl]; exact Or.inr rfl
  · rw [edk_eq]
    exact ⟨S 1, q2, p2.2, fun j j0 j1 => (e3 j j0 j1).symm⟩
  · exact ((kh_nx k (by omega)).trans ((Nx.bk k2.1).wid (Q := KR f) (fun q _ p => ⟨by omega, by omega⟩) (Nat.le_refl _) (Nat.le_refl _))).up (Nat.le_refl 0) (Nat.le_refl 0)
theorem k_restore (hN : 2000 ≤ N) (w : KX Θ f c h S bO) (h4 : S 0 4 = 1) : ∃ h2, P_F_restore Θ N h f = some (.inl (J (S 3 4)), h2) ∧ KX Θ f c h2 (rstR S).2 (fun _ => False) ∧ Nx Θ h h2 (KR f) 0 0 := by
  have r3 := w.r3
  have r4 := w.r4
  have r2 := w.r2
  obtain ⟨a, b, r, x, F, E, Q, k, o2, o3, o4, p1, p2, p4, p5, p6, p7⟩ := w
  obtain ⟨⟨a10, b10, ab⟩, r10, rr⟩ := id o3
  obtain ⟨W, w1, w2, w3⟩ := p7 h4
  obtain ⟨D, q1, q2⟩ := kh_copy (N := N) hN k (i := a) (j := 10) (by omega) (by omega) (by omega) (p1 a (by omega)) w1 w2
  have k2 := kh_upd (D := D) k (i := a) (by omega)
  have hY2 : shY.length = 2 := rfl
  have hb1 : bOK Θ 2 (f + 27) (HD Θ (f + dk a) D h) := k2.2.2.1
  have hy : HY Θ (f + 27) Q (HD Θ (f + dk a) D h) = HD Θ (f + dk a) D h := k2.2.2.2
  have k3 : KH Θ f (HY Θ (f + 27) (up2 Q 0 2 0) (HD Θ (f + dk a) D h)) F (edk E a D) (up2 Q 0 2 0) := by
    refine ⟨k2.1.other k2.2.2.1 (by have : shF.length = 1 := rfl; omega), fun i hi => ?_, HB.self hb1⟩
    have d := dk_rng hi
    have : shD.length = 13 := rfl
    exact (k2.2.1 i hi).other k2.2.2.1 (by omega)
  have n4 : ¬ S 0 4 = 0 := by omega
  have e0 : ∀ j : Int, (rstR S).2 0 j = if j = 5 then 0 else if j = 13 then 0 else S 0 j := fun j => by
    unfold rstR
    rw [if_neg n4]
    dsimp only
    rw [up2_at]
    by_cases z : j = 5
    · rw [if_pos ⟨rfl, z⟩, if_pos z]
    · rw [if_neg (by omega), if_neg z, cpy_o (by decide), T13, up2_at]
      by_cases y : j = 13
      · rw [if_pos ⟨rfl, y⟩, if_pos y]
      · rw [if_neg (by omega), if_neg y]
  have e1 : ∀ i : Nat, i ≠ 0 → i ≠ 1 → (rstR S).2 i = S i := fun i i0 i3 => by
    unfold rstR
    rw [if_neg n4]
    funext j
    dsimp only
    rw [up2_ne i0, cpy_o i3, T13, up2_ne i0]
  have e3 : (rstR S).2 1 = fun j => if 0 ≤ j ∧ j < 140 then S 3 (0 + j) else S 1 j := by
    unfold rstR
    rw [if_neg n4]
    funext j
    dsimp only
    rw [up2_ne (by decide), cpy_at, T13, up2_ne (by decide), up2_ne (by decide)]
    by_cases z : 0 ≤ j ∧ j < 140
    · rw [if_pos ⟨rfl, z.1, by omega⟩, if_pos z]
      exact congrArg (S 3) (by omega)
    · rw [if_neg (by omega), if_neg z]
  have nv : DV D ((rstR S).2 1) ∧ In c ((rstR S).2 1) := by
    have u : NV c D (fun j => S 3 (0 + j)) := ⟨W, q2, w2, fun j j0 j1 => (w3 j j0 j1).trans (congrArg (S 3) (by omega))⟩
    rw [e3]
    exact u.to (ok_mix p2.2 u) (fun j j0 j1 => by rw [if_pos ⟨j0, j1⟩])
  have o2' : KF f (rstR S).2 a b F := by
    unfold KF at o2 ⊢
    simp [e0] at o2 ⊢
    simp_all
  have cn := k_count k3 (i := a) (by omega) (V := (rstR S).2 1) (by rw [edk_eq]; exact nv.1)
  have v4 : (rstR S).2 1 4 = S 3 4 := by rw [e3]; rfl
  rw [v4] at cn
  refine ⟨_, ?_, ⟨a, b, r, x, F, edk E a D, up2 Q 0 2 0, k3, o2', o3, ?_, fun i hi => ?_, ?_, fun B hB => hB.elim, fun e u0 u1 => ?_, ?_, fun g => ?_⟩, ?_⟩
  · unfold P_F_restore
    rw [r4, bo_some, h4, if_neg (show ¬ J 1 = (0 : Int32) by decide), kh_r0 k o2, bo_some, r3, bo_some, kh_O k (by omega), show f + 133 = f + dk 10 from rfl, q1, bc_some]
    have r2' : rA Θ (HD Θ (f + dk a) D h) 0 f 2 = some (f + 27) := by
      have := HB.xB k2.1 (i := 0) (k := 2) rfl rfl
      rwa [show F 0 ((2 : Nat) : Int) = (f + 27 : Nat) from o2.1.2.2.1, Int.toNat_natCast] at this
    rw [r2', bo_some]
    unfold P_H_forget
    rw [← hy, y_O hb1, y_W2 hb1, bo_some, bc_some, hy, kh_r0 k3 o2', bo_some, cn.1, bo_some, cn.2, bo_some]
  · unfold KQ at o4 ⊢
    rw [e0, if_pos rfl, up2_nj (by decide), up2_eq]
    exact ⟨⟨o4.1.1, rfl⟩, o4.2.1, ⟨by omega, by omega⟩, fun i i0 i1 => by rw [up2_ne (by decide)]; exact o4.2.2.2 i i0 i1⟩
  · by_cases z : i = a
    · subst z; rw [edk_eq]; exact q2.pm
    · rw [edk_ne z]; exact p1 i hi
  · rw [edk_eq]; exact nv
  · rw [e0, if_pos rfl] at u1
    omega
  · rw [e0, if_neg (by decide), if_neg (by decide)]; exact p6
  · rw [edk_ne (by omega), e1 3 (by decide) (by decide)]
    exact ⟨W, w1, w2, w3⟩
  · exact ((kh_nx k (by omega)).trans ((Nx.bk k2.2.2).wid (Q := KR f) (fun q _ p => ⟨by omega, by omega⟩) (Nat.le_refl _) (Nat.le_refl _))).up (Nat.le_refl 0) (Nat.le_refl 0)
end KZ
