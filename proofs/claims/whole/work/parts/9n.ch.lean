/-! the changes of the face -/
def OPc (Θ : mW) (f : Nat) (k : Int) (h : mH) (S : Nat → Int → Int) (tb : Int → Nat) (vp : Int → Prop) (pf : Option ((Int32 ⊕ Nat) × mH)) (pr : mH → Option (Int32 × mH)) : Prop :=
  ∃ (v v' : Int) (S' : Nat → Int → Int) (h1 : mH), (pf = if S' 0 13 = 0 then some (.inl (J v), h1) else some (.inr (tb (S' 0 13)), h1)) ∧ (∀ h2, bOK Θ 9 (f + 157) h2 → pr (HR Θ (f + 157) S h2) = some (J v', HR Θ (f + 157) S' h2)) ∧ (S' 0 13 = 0 → v' = v) ∧ ZW Θ f (k + 1) h1 S S' ∧ (0 ≤ S' 0 13 ∧ S' 0 13 ≤ 4) ∧ (S' 0 13 ≠ 0 → tb (S' 0 13) ≠ 0) ∧ (S' 0 13 = 0 → vp v)
section CH
variable {Θ : mW} {N f : Nat} {c k : Int} {S S' S2 : Nat → Int → Int} {h h2 : mH} {tb : Int → Nat} {vp : Int → Prop} {pc : mH → Option ((Int32 ⊕ Nat) × mH)} {pr : mH → Option (Int32 × mH)} {P : Nat → Prop} {y z : Nat}
theorem WN.sm (ww : WN k S) (e10 : S2 0 10 = S 0 10) (e12 : S2 0 12 = S 0 12) (e8 : 0 ≤ S2 0 8 ∧ S2 0 8 ≤ 4) (e6 : S2 0 6 = S 0 6) (e7 : S2 0 7 = S 0 7) : WN (k + 1) S2 := by
  obtain ⟨a1, a2, a3, a4, a5⟩ := ww
  unfold WN
  rw [e10, e12, e6, e7]
  exact ⟨by omega, a2, e8, a4, a5⟩
/-- after a step of the class that leaves the text and the line alone -/
theorem ZW.cls (ww : ZW Θ f k h S S) (x : Nx Θ h h2 P y z) (hy : y ≤ 100) (hz : z ≤ 10000) (hp : ∀ x, P x → x < f + 146) (kx : KX Θ f (k - S 0 10 + 1) h2 S2 (fun _ => False)) (e10 : S2 0 10 = S 0 10) (e12 : S2 0 12 = S 0 12) (e8 : 0 ≤ S2 0 8 ∧ S2 0 8 ≤ 4) (e6 : S2 0 6 = S 0 6) (e7 : S2 0 7 = S 0 7) (r5 : S2 5 = S 5) (r6 : S2 6 = S 6) : ZW Θ f (k + 1) h2 S S2 := by
  obtain ⟨w1, w2, w3, w4, w5⟩ := ww
  refine ⟨?_, (w2.nx x (fun u q => Or.inl (hp u q))).sm e10 e12 r5 r6, w3.nx x (fun u u1 u2 q => ?_), w4.sm e10 e12 e8 e6 e7, w5.nx x hy hz⟩
  · rw [e10, show k + 1 - S 0 10 = k - S 0 10 + 1 by omega]
    exact kx
  · have := hp u q
    omega
theorem ch_op (hN : 2000 ≤ N) (hk : k ≤ 1000) (ii : INN Θ f (f + 157) tb vp pc pr) (ww : ZW Θ f k h S S) {fin : Int32 → mH → Option ((Int32 ⊕ Nat) × mH)} {finR : Int32 → mH → Option (Int32 × mH)} (hf : ∀ (v : Int) (hh : mH), vp v → fin (J v) hh = some (.inl (J v), hh)) (hR : ∀ (v : Int) (hh : mH), vp v ∨ v = 0 → finR (J v) hh = some (J v, hh)) : OPc Θ f k h S tb vp (gO Θ h 0 f (bc (P_F_startChange Θ N h f) (fun _ h1 => bx (pc h1) (fun v6 h5 => gO Θ h5 0 f (bc (P_F_keepChange Θ N h5 f) (fun _ h7 => fin v6 h7))) (fun n9 h9 => xp n9 h9)))) (fun hh => gO Θ hh 9 (f + 157) (bc (P_R_begins Θ N hh (f + 157)) (fun _ h1 => gO Θ h1 9 (f + 157) (bc (pr h1) (fun v4 h3 => gO Θ h3 9 (f + 157) (bc (P_R_ends Θ N h3 (f + 157) v4) (fun v6 h5 => finR v6 h5))))))) := by
  have wk := ww.1
  have wn := ww.2.2.2.1
  obtain ⟨h1, a1, a2, a3⟩ := k_start (N := N) hN wk
  have c2 : ∀ i : Nat, i ≠ 2 → cpy S 1 0 2 0 140 i = S i := fun i hi => cpy_r hi
  have a4 := a2.sm (S2 := cpy S 1 0 2 0 140) ⟨by rw [c2 0 (by decide)], by rw [c2 0 (by decide)], by rw [c2 0 (by decide)], by rw [c2 0 (by decide)], by rw [c2 0 (by decide)], c2 1 (by decide), c2 3 (by decide), c2 4 (by decide)⟩
  obtain ⟨n1, n2, n3, n4, n5⟩ := id wn
  obtain ⟨v, S2, h3, b1, b2, b3, b4, b5, b6, b7, b8, b9, b10, b11⟩ := ii _ h1 _ _ (by omega) (by omega) a4
  have e0 : ∀ j : Int, j ≠ 8 → j ≠ 13 → S2 0 j = S 0 j := fun j u1 u2 => (b8 j u1 u2).trans (by rw [c2 0 (by decide)])
  have e8 := b10 (by rw [c2 0 (by decide)]; exact n3.1) (by rw [c2 0 (by decide)]; exact n3.2)
  have ea : ∀ i : Nat, i ≠ 0 → i ≠ 1 → i ≠ 2 → S2 i = S i := fun i i0 i1 i2 => (b7 i i0 i1).trans (c2 i i2)
  have e2 : ∀ j : Int, 0 ≤ j → j < 140 → S2 2 j = S 1 j := fun j j0 j1 => by
    rw [b7 2 (by decide) (by decide), cpy_at, if_pos (by omega)]
    exact congrArg (S 1) (by omega)
  have k5 := b3.ok.2.1
  have rf : ∀ h2, bOK Θ 9 (f + 157) h2 → (gO Θ (HR Θ (f + 157) S h2) 9 (f + 157) (bc (P_R_begins Θ N (HR Θ (f + 157) S h2) (f + 157)) (fun _ h1 => gO Θ h1 9 (f + 157) (bc (pr h1) (fun v4 h3 => gO Θ h3 9 (f + 157) (bc (P_R_ends Θ N h3 (f + 157) v4) (fun v6 h5 => finR v6 h5))))))) = finR (J (endR (v, S2)).1) (HR Θ (f + 157) (endR (v, S2)).2 h2) := fun h2 hb => by
    rw [r_O hb, s_begins hN hb, bc_some, r_O hb, b2 h2 hb, bc_some, r_O hb, s_ends hN hb k5.1 k5.2 b5.1 b5.2, bc_some]
  by_cases zz : S2 0 13 = 0
  · obtain ⟨h5, d1, d2, d3⟩ := k_keep (N := N) b3 e2
    have x := ((a3.trans b4).trans d3)
    have r0 : ∀ j : Int, j ≠ 5 → remR S2 0 j = S2 0 j := fun j hj => remR_0 hj
    have vv := b9 zz
    refine ⟨v, v, remR S2, h5, ?_, fun h2 hb => ?_, fun _ => rfl, ?_, ?_, ?_, fun _ => vv⟩
    · rw [r0 13 (by decide), zz, if_pos rfl, wk.gO, a1, bc_some, b1, zz, if_pos rfl, bx_inl, b3.gO, d1, bc_some, hf v h5 vv]
    · refine (rf h2 hb).trans ?_
      unfold endR
      rw [if_pos zz]
      exact hR v _ (Or.inl vv)
    · exact ww.cls x (by omega) (by omega) (fun u q => q.2) d2 (by rw [r0 10 (by decide), e0 10 (by decide) (by decide)]) (by rw [r0 12 (by decide), e0 12 (by decide) (by decide)]) (by rw [r0 8 (by decide)]; exact e8) (by rw [r0 6 (by decide), e0 6 (by decide) (by decide)]) (by rw [r0 7 (by decide), e0 7 (by decide) (by decide)]) (by rw [remR_o (by decide) (by decide), ea 5 (by decide) (by decide) (by decide)]) (by rw [remR_o (by decide) (by decide), ea 6 (by decide) (by decide) (by decide)])
    · rw [r0 13 (by decide), zz]; omega
    · rw [r0 13 (by decide)]; exact fun q => (q zz).elim
  · have x := a3.trans b4
    have c1 : ∀ i : Nat, i ≠ 1 → cpy S2 2 0 1 0 140 i = S2 i := fun i hi => cpy_r hi
    have q1 : cpy S2 2 0 1 0 140 1 = S2 1 := by
      funext j
      rw [cpy_at]
      by_cases u : 0 ≤ j ∧ j < 140
      · rw [if_pos (by omega), e2 (0 + (j - 0)) (by omega) (by omega), b6 zz, c2 1 (by decide)]
        exact congrArg (S 1) (by omega)
      · rw [if_neg (by omega)]
    have sm : Sm S2 (cpy S2 2 0 1 0 140) := ⟨by rw [c1 0 (by decide)], by rw [c1 0 (by decide)], by rw [c1 0 (by decide)], by rw [c1 0 (by decide)], by rw [c1 0 (by decide)], q1, c1 3 (by decide), c1 4 (by decide)⟩
    refine ⟨v, 0, cpy S2 2 0 1 0 140, h3, ?_, fun h2 hb => ?_, fun q => ?_, ?_, ?_, ?_, fun q => ?_⟩
    · rw [c1 0 (by decide), if_neg zz, wk.gO, a1, bc_some, b1, if_neg zz, bx_inr]
      rfl
    · refine (rf h2 hb).trans ?_
      unfold endR
      rw [if_neg zz]
      exact hR 0 _ (Or.inr rfl)
    · rw [c1 0 (by decide)] at q; exact (zz q).elim
    · exact ww.cls x (by omega) (by omega) (fun u q => q.2) (b3.sm sm).forget (by rw [c1 0 (by decide), e0 10 (by decide) (by decide)]) (by rw [c1 0 (by decide), e0 12 (by decide) (by decide)]) (by rw [c1 0 (by decide)]; exact e8) (by rw [c1 0 (by decide), e0 6 (by decide) (by decide)]) (by rw [c1 0 (by decide), e0 7 (by decide) (by decide)]) (by rw [c1 5 (by decide), ea 5 (by decide) (by decide) (by decide)]) (by rw [c1 6 (by decide), ea 6 (by decide) (by decide) (by decide)])
    · rw [c1 0 (by decide)]; exact b5
    · rw [c1 0 (by decide)]; exact b11
    · rw [c1 0 (by decide)] at q; exact (zz q).elim
theorem fin_id {α : Type} : ∀ (v : Int) (hh : mH), True → (fun (v : Int32) (h : mH) => some ((Sum.inl v : Int32 ⊕ Nat), h)) (J v) hh = some (.inl (J v), hh) := fun _ _ _ => rfl
theorem o_add {l d t : Int} (hl : int' l) (hd : int' d) (ht : int' t) (hN : 2000 ≤ N) (hk : k ≤ 1000) (ww : ZW Θ f k h S S) : OPc Θ f k h S (tbl [11, 12]) (fun _ => True) (P_F_addShip Θ N h f (J l) (J d) (J t)) (fun hh => P_R_addShip Θ N hh (f + 157) (J l) (J d) (J t)) := by
  have e := ch_op (N := N) hN hk (in_add hl hd ht hN) ww (fin := fun v hh => some (.inl v, hh)) (finR := fun v hh => some (v, hh)) (fun _ _ _ => rfl) (fun _ _ _ => rfl)
  unfold P_F_addShip P_R_addShip
  simp only [gO_bx, bo_bx]
  exact e
theorem o_rmv {i : Int} (hi : int' i) (hN : 2000 ≤ N) (hk : k ≤ 1000) (ww : ZW Θ f k h S S) : OPc Θ f k h S (tbl [10, 12]) (fun _ => True) (P_F_removeShip Θ N h f (J i)) (fun hh => P_R_removeShip Θ N hh (f + 157) (J i)) := by
  have e := ch_op (N := N) hN hk (in_rmv hi hN) ww (fin := fun v hh => some (.inl v, hh)) (finR := fun v hh => some (v, hh)) (fun _ _ _ => rfl) (fun _ _ _ => rfl)
  unfold P_F_removeShip P_R_removeShip
  simp only [gO_bx, bo_bx]
  exact e
theorem o_ent {i x : Int} (hi : int' i) (hx : int' x) (hN : 2000 ≤ N) (hk : k ≤ 1000) (ww : ZW Θ f k h S S) : OPc Θ f k h S (tbl [10, 11, 12, 13]) (fun _ => True) (P_F_enter Θ N h f (J i) (J x)) (fun hh => P_R_enter Θ N hh (f + 157) (J i) (J x)) := by
  have e := ch_op (N := N) hN hk (in_ent hi hx hN) ww (fin := fun v hh => some (.inl v, hh)) (finR := fun v hh => some (v, hh)) (fun _ _ _ => rfl) (fun _ _ _ => rfl)
  unfold P_F_enter P_R_enter
  simp only [gO_bx, bo_bx]
  exact e
theorem o_lea {i : Int} (hi : int' i) (hN : 2000 ≤ N) (hk : k ≤ 1000) (ww : ZW Θ f k h S S) : OPc Θ f k h S (tbl [10, 12, 13]) (fun _ => True) (P_F_leave Θ N h f (J i)) (fun hh => P_R_leave Θ N hh (f + 157) (J i)) := by
  have e := ch_op (N := N) hN hk (in_lea hi hN) ww (fin := fun v hh => some (.inl v, hh)) (finR := fun v hh => some (v, hh)) (fun _ _ _ => rfl) (fun _ _ _ => rfl)
  unfold P_F_leave P_R_leave
  simp only [gO_bx, bo_bx]
  exact e
theorem o_pum {i : Int} (hi : int' i) (hN : 2000 ≤ N) (hk : k ≤ 1000) (ww : ZW Θ f k h S S) : OPc Θ f k h S (tbl [11]) (fun _ => True) (P_F_setPump Θ N h f (J i)) (fun hh => P_R_setPump Θ N hh (f + 157) (J i)) := by
  have e := ch_op (N := N) hN hk (in_pum (N := N) hi) ww (fin := fun v hh => some (.inl v, hh)) (finR := fun v hh => some (v, hh)) (fun _ _ _ => rfl) (fun _ _ _ => rfl)
  unfold P_F_setPump P_R_setPump
  simp only [gO_bx, bo_bx]
  exact e
theorem o_pas {i : Int} (hi : int' i) (hN : 2000 ≤ N) (hk : k ≤ 1000) (ww : ZW Θ f k h S S) : OPc Θ f k h S (tbl [11]) (fun _ => True) (P_F_pass Θ N h f (J i)) (fun hh => P_R_pass Θ N hh (f + 157) (J i)) := by
  have e := ch_op (N := N) hN hk (in_wai hi hN) ww (fin := fun v hh => some (.inl v, hh)) (finR := fun v hh => some (v, hh)) (fun _ _ _ => rfl) (fun _ _ _ => rfl)
  unfold P_F_pass P_R_pass
  simp only [gO_bx, bo_bx]
  exact e
theorem o_plb {i : Int} (hi : int' i) (hN : 2000 ≤ N) (hk : k ≤ 1000) (ww : ZW Θ f k h S S) : OPc Θ f k h S (tbl [11, 12, 13]) (fun _ => True) (P_F_placeBlock Θ N h f (J i)) (fun hh => P_R_placeBlock Θ N hh (f + 157) (J i)) := by
  have e := ch_op (N := N) hN hk (in_lay hi hN) ww (fin := fun v hh => some (.inl v, hh)) (finR := fun v hh => some (v, hh)) (fun _ _ _ => rfl) (fun _ _ _ => rfl)
  unfold P_F_placeBlock P_R_placeBlock
  simp only [gO_bx, bo_bx]
  exact e
theorem o_rmb {i : Int} (hi : int' i) (hN : 2000 ≤ N) (hk : k ≤ 1000) (ww : ZW Θ f k h S S) : OPc Θ f k h S (tbl [11, 10, 13]) (fun _ => True) (P_F_removeBlock Θ N h f (J i)) (fun hh => P_R_removeBlock Θ N hh (f + 157) (J i)) := by
  have e := ch_op (N := N) hN hk (in_tak hi hN) ww (fin := fun v hh => some (.inl v, hh)) (finR := fun v hh => some (v, hh)) (fun _ _ _ => rfl) (fun _ _ _ => rfl)
  unfold P_F_removeBlock P_R_removeBlock
  simp only [gO_bx, bo_bx]
  exact e
theorem o_pay {i x : Int} (hi : int' i) (hx : int' x) (hN : 2000 ≤ N) (hk : k ≤ 1000) (ww : ZW Θ f k h S S) : OPc Θ f k h S (tbl [10, 11, 12]) (fun _ => True) (P_F_pay Θ N h f (J i) (J x)) (fun hh => P_R_pay Θ N hh (f + 157) (J i) (J x)) := by
  have e := ch_op (N := N) hN hk (in_pay hi hx hN) ww (fin := fun v hh => some (.inl v, hh)) (finR := fun v hh => some (v, hh)) (fun _ _ _ => rfl) (fun _ _ _ => rfl)
  unfold P_F_pay P_R_pay
  simp only [gO_bx, bo_bx]
  exact e
theorem fin_b {v : Int} {hh : mH} (hv : v = 0 ∨ v = 1) : (if J v = J 0 ∨ J v = J 1 then some ((Sum.inl (J v) : Int32 ⊕ Nat), hh) else none) = some (.inl (J v), hh) := by
  rcases hv with rfl | rfl
  · rw [if_pos (Or.inl rfl)]
  · rw [if_pos (Or.inr rfl)]
theorem finR_b {v : Int} {hh : mH} (hv : (v = 0 ∨ v = 1) ∨ v = 0) : (if J v = J 1 then some (J 1, hh) else some (J 0, hh)) = some (J v, hh) := by
  have : v = 0 ∨ v = 1 := by omega
  rcases this with rfl | rfl
  · rw [if_neg (by decide)]
  · rw [if_pos rfl]
theorem b01 {x : Int} (hx : x = 0 ∨ x = 1) {ρ : Type} (hh : mH) (F : mH → Int32 → Option ρ) : jn F (fun j => if J x = 0 then j hh (J 0) else j hh (J 1)) = F hh (J x) := by
  rcases hx with rfl | rfl
  · rw [jn_eq, if_pos (show J 0 = (0 : Int32) from rfl)]
  · rw [jn_eq, if_neg (show ¬ J 1 = (0 : Int32) by decide)]
theorem o_cle {i x : Int} (hi : int' i) (hx : x = 0 ∨ x = 1) (hN : 2000 ≤ N) (hk : k ≤ 1000) (ww : ZW Θ f k h S S) : OPc Θ f k h S (tbl [10, 12]) (fun v => v = 0 ∨ v = 1) (P_F_setCleaning Θ N h f (J i) (J x)) (fun hh => P_R_setCleaning Θ N hh (f + 157) (J i) (J x)) := by
  have e := ch_op (N := N) hN hk (in_cle hi hx hN) ww (fin := fun v hh => if v = J 0 ∨ v = J 1 then some (.inl v, hh) else none) (finR := fun v hh => if v = J 1 then some (J 1, hh) else some (J 0, hh)) (fun _ _ hv => fin_b hv) (fun _ _ hv => finR_b hv)
  unfold P_F_setCleaning P_R_setCleaning
  simp only [gO_bx, bo_bx, b01 hx]
  exact e
theorem o_gat {x : Int} (hx : x = 0 ∨ x = 1) (hN : 2000 ≤ N) (hk : k ≤ 1000) (ww : ZW Θ f k h S S) : OPc Θ f k h S (tbl [13]) (fun v => v = 0 ∨ v = 1) (P_F_setGate Θ N h f (J x)) (fun hh => P_R_setGate Θ N hh (f + 157) (J x)) := by
  have e := ch_op (N := N) hN hk (in_gat (N := N) hx) ww (fin := fun v hh => if v = J 0 ∨ v = J 1 then some (.inl v, hh) else none) (finR := fun v hh => if v = J 1 then some (J 1, hh) else some (J 0, hh)) (fun _ _ hv => fin_b hv) (fun _ _ hv => finR_b hv)
  unfold P_F_setGate P_R_setGate
  simp only [gO_bx, bo_bx, b01 hx]
  exact e
end CH
