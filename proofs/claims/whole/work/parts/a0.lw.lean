/-! the law's loop: what a step asks -/
def LPz (Θ : mW) (f : Nat) (i : Int) (rc : mH → Int32 → Option (Int32 × mH)) (e : Option (Int32 × mH)) : Prop := ∃ (h' : mH) (S' : Nat → Int → Int), e = rc h' (J (4 * i) + J 4) ∧ ZW Θ f (i + 1) h' S' S'
section LW
variable {Θ : mW} {N f : Nat} {i k : Int} {S S' : Nat → Int → Int} {h h2 : mH} {tb : Int → Nat} {vp : Int → Prop} {pf : Option ((Int32 ⊕ Nat) × mH)} {pd : Option ((UInt64 ⊕ Nat) × mH)} {pn pw : Option (Int32 × mH)} {p4 : Option (UInt32 × mH)} {pr : mH → Option (Int32 × mH)} {prd : mH → Option (UInt64 × mH)} {pr4 : mH → Option (UInt32 × mH)} {rc : mH → Int32 → Option (Int32 × mH)} {tw : Nat → mH → Option (Int32 × mH)}
theorem lp_ite {p : Prop} [Decidable p] {a b : Option (Int32 × mH)} (h1 : p → LPz Θ f i rc a) (h2 : ¬ p → LPz Θ f i rc b) : LPz Θ f i rc (if p then a else b) := by
  split
  · exact h1 (by assumption)
  · exact h2 (by assumption)
theorem up_0 : (J 0).toNatClampNeg = 0 := J_nat (a := 0) (by omega) (by omega)
theorem i1_ok : ¬ (J 0 < 0 ∨ 1 ≤ (J 0).toNatClampNeg) := by rw [up_0]; decide
/-- a result is written -/
theorem zw_pt (ww : ZW Θ f k h S S') {o : Nat} {e0 e : mE} (ho : f + 166 ≤ o ∧ o < f + 168) (hg : gt Θ h o = some e0) (hm : msz1 e = msz1 e0) (h6 : ∃ g, gt Θ (pt Θ h o e) (f + 166) = some (aL 1 g)) (h7 : ∃ g, gt Θ (pt Θ h o e) (f + 167) = some (aD 1 g)) : ZW Θ f k (pt Θ h o e) S S' := by
  obtain ⟨w1, ⟨⟨v1, v2, T, U, a1, a2, a3⟩, ⟨G, a4⟩, -, -⟩, w3, w4, w5⟩ := ww
  have x : Nx Θ h (pt Θ h o e) (fun u => u = o) 0 0 := ⟨by rw [pt_length]; omega, by rw [msz_pt hg hm]; omega, fun u hu hp => by rw [gt_pt hg, if_neg hp]⟩
  have sG : shG.length = 5 := rfl
  refine ⟨w1.nx x (fun u hu p => by unfold KR at hu; omega), ⟨⟨v1, v2, T, U, a1.nx x (fun u hu => by omega), sb_nx a2 x (by omega) (by omega), a3⟩, ⟨G, a4.nx x (fun u u1 u2 => by omega)⟩, h6, h7⟩, w3.nx x (fun u u1 u2 p => by have := shR_l; omega), w4, ?_⟩
  unfold WZ at w5 ⊢
  rw [pt_length, msz_pt hg hm]
  exact w5
theorem zw_aWL (ww : ZW Θ f k h S S') (x : Int64) : ∃ h2, aWL Θ h (f + 166) (J 0) x = some h2 ∧ ZW Θ f k h2 S S' ∧ ∀ S2, aRL Θ (HR Θ (f + 157) S2 h2) (f + 166) (J 0) = some x := by
  obtain ⟨g, hg⟩ := ww.2.1.2.2.1
  obtain ⟨g7, hg7⟩ := ww.2.1.2.2.2
  have gp : ∀ u, gt Θ (pt Θ h (f + 166) (aL 1 (vp_updL g 0 x))) u = _ := fun u => gt_pt hg
  refine ⟨pt Θ h (f + 166) (aL 1 (vp_updL g 0 x)), ?_, zw_pt ww ⟨by omega, by omega⟩ hg rfl ⟨_, by rw [gp, if_pos rfl]⟩ ⟨g7, by rw [gp, if_neg (by omega)]; exact hg7⟩, fun S2 => ?_⟩
  · unfold aWL
    rw [hg]
    dsimp only
    rw [if_pos ⟨rfl, i1_ok⟩, up_0]
  · have hb : bOK Θ 9 (f + 157) (pt Θ h (f + 166) (aL 1 (vp_updL g 0 x))) := by
      have := ww.2.2.1.1
      exact ⟨this.1, by rw [pt_length]; exact this.2⟩
    unfold aRL
    rw [BK_gt hb, if_neg (by rw [shR_l]; omega), gp, if_pos rfl]
    dsimp only
    rw [if_pos ⟨rfl, i1_ok⟩, up_0]
    rfl
theorem zw_aWD (ww : ZW Θ f k h S S') (x : UInt64) : ∃ h2, aWD Θ h (f + 167) (J 0) x = some h2 ∧ ZW Θ f k h2 S S' ∧ ∀ S2, aRD Θ (HR Θ (f + 157) S2 h2) (f + 167) (J 0) = some x := by
  obtain ⟨g6, hg6⟩ := ww.2.1.2.2.1
  obtain ⟨g, hg⟩ := ww.2.1.2.2.2
  have gp : ∀ u, gt Θ (pt Θ h (f + 167) (aD 1 (vf_upd g 0 x))) u = _ := fun u => gt_pt hg
  refine ⟨pt Θ h (f + 167) (aD 1 (vf_upd g 0 x)), ?_, zw_pt ww ⟨by omega, by omega⟩ hg rfl ⟨g6, by rw [gp, if_neg (by omega)]; exact hg6⟩ ⟨_, by rw [gp, if_pos rfl]⟩, fun S2 => ?_⟩
  · unfold aWD
    rw [hg]
    dsimp only
    rw [if_pos ⟨rfl, i1_ok⟩, up_0]
  · have hb : bOK Θ 9 (f + 157) (pt Θ h (f + 167) (aD 1 (vf_upd g 0 x))) := by
      have := ww.2.2.1.1
      exact ⟨this.1, by rw [pt_length]; exact this.2⟩
    unfold aRD
    rw [BK_gt hb, if_neg (by rw [shR_l]; omega), gp, if_pos rfl]
    dsimp only
    rw [if_pos ⟨rfl, i1_ok⟩, up_0]
    rfl
theorem lg_self (x : Int64) : lg_cmp x x = 0 := by
  unfold lg_cmp
  simp
/-- from a question to what the law sees of it -/
theorem oq_go (oq : OQ Θ f k h S tb vp pf pr) : ∃ (v T : Int) (h1 : mH), (pf = if T = 0 then some (.inl (J v), h1) else some (.inr (tb T), h1)) ∧ (0 ≤ T ∧ T ≤ 4) ∧ (T ≠ 0 → tb T ≠ 0) ∧ (T = 0 → vp v) ∧ (∀ x : Int64, ∃ h2, aWL Θ h1 (f + 166) (J 0) x = some h2 ∧ (∀ {ρ : Type} {p : Option ρ}, gO Θ h2 9 (f + 157) p = p) ∧ ∃ (v' : Int) (S' : Nat → Int → Int) (h3 : mH), pr h2 = some (J v', h3) ∧ (∀ {ρ : Type} {p : Option ρ}, gO Θ h3 9 (f + 157) p = p) ∧ P_R_thrown Θ N h3 (f + 157) = some (J T, h3) ∧ (T = 0 → v' = v) ∧ aRL Θ h3 (f + 166) (J 0) = some x ∧ ZW Θ f (k + 1) h3 S' S') ∧ ((∀ {ρ : Type} {p : Option ρ}, gO Θ h1 9 (f + 157) p = p) ∧ ∃ (v' : Int) (S' : Nat → Int → Int) (h3 : mH), pr h1 = some (J v', h3) ∧ (∀ {ρ : Type} {p : Option ρ}, gO Θ h3 9 (f + 157) p = p) ∧ P_R_thrown Θ N h3 (f + 157) = some (J T, h3) ∧ ZW Θ f (k + 1) h3 S' S') := by
  obtain ⟨v, T, h1, a1, a2, a3, a4, ⟨S0, a5⟩, a6⟩ := oq
  refine ⟨v, T, h1, a1, a2, a3, a4, fun x => ?_, ?_⟩
  · obtain ⟨h2, b1, b2, b3⟩ := zw_aWL a5 x
    have hb := b2.2.2.1.1
    have he : HR Θ (f + 157) S h2 = h2 := b2.2.2.1.2
    obtain ⟨v', S', c1, c2, c3, c4⟩ := a6 h2 hb
    rw [he] at c1
    obtain ⟨h2', d1, d2, d3⟩ := zw_aWL c4 x
    rw [b1] at d1
    injection d1 with d1
    subst d1
    have go : ∀ {ρ : Type} {p : Option ρ}, gO Θ h2 9 (f + 157) p = p := fun {ρ p} => by
      have := r_O (Θ := Θ) (S := S) hb (p := p)
      rwa [he] at this
    refine ⟨h2, b1, go, v', S', _, c1, fun {ρ p} => r_O hb, ?_, c3, b3 S', d2.ref.1⟩
    rw [q_thrown hb, c2]
  · have hb := a5.2.2.1.1
    have he : HR Θ (f + 157) S h1 = h1 := a5.2.2.1.2
    obtain ⟨v', S', c1, c2, c3, c4⟩ := a6 h1 hb
    rw [he] at c1
    have go : ∀ {ρ : Type} {p : Option ρ}, gO Θ h1 9 (f + 157) p = p := fun {ρ p} => by
      have := r_O (Θ := Θ) (S := S) hb (p := p)
      rwa [he] at this
    refine ⟨go, v', S', _, c1, fun {ρ p} => r_O hb, ?_, c4.ref.1⟩
    rw [q_thrown hb, c2]
theorem br_L (oq : OQ Θ f i h S tb vp pf pr) (kO : ∀ {ρ : Type} {p : Option ρ}, gO Θ h 0 f p = p) (hw : pw = gO Θ h 0 f (bx pf (fun v2 h1 => (bo (aWL Θ h1 (f + 166) (J 0) ((v2).toInt64)) (fun h5 => (some ((J 0), h5))))) tw)) (ht : ∀ T : Int, 1 ≤ T → T ≤ 4 → tb T ≠ 0 → ∀ h3, tw (tb T) h3 = some (J T, h3)) : LPz Θ f i rc (bc pw (fun v21 h20 => (gO Θ h20 9 (f + 157) (bc (pr h20) (fun v26 h25 => (gO Θ h25 9 (f + 157) (bc (P_R_thrown Θ N h25 (f + 157)) (fun v28 h27 => (if v28 = v21 then (if v21 = 0 then (bo (aRL Θ h27 (f + 166) (J 0)) (fun v31 => (if (lg_cmp v31 ((v26).toInt64)) = 0 then (rc h27 (J (4 * i) + J 4)) else (some ((J 0), h27))))) else (rc h27 (J (4 * i) + J 4))) else (some ((J 0), h27))))))))))) := by
  obtain ⟨v, T, h1, a1, a2, a3, a4, a5, a6⟩ := oq_go (N := N) oq
  rw [hw, kO, a1]
  by_cases z : T = 0
  · obtain ⟨h2, b1, b2, v', S', h3, c1, c2, c3, c4, c5, c6⟩ := a5 ((J v).toInt64)
    refine ⟨h3, S', ?_, c6⟩
    rw [if_pos z, bx_inl, b1, bo_some, bc_some, b2, c1, bc_some, c2, c3, bc_some, z, if_pos rfl, if_pos (show J 0 = (0 : Int32) from rfl), c5, bo_some, c4 z, if_pos (lg_self _)]
  · obtain ⟨b2, v', S', h3, c1, c2, c3, c6⟩ := a6
    refine ⟨h3, S', ?_, c6⟩
    rw [if_neg z, bx_inr, ht T (by omega) (by omega) (a3 z), bc_some, b2, c1, bc_some, c2, c3, bc_some, if_pos rfl, if_neg (show ¬ J T = (0 : Int32) by rw [J_eq0] <;> omega)]
theorem br_B (oq : OQ Θ f i h S tb (fun v => v = 0 ∨ v = 1) pf pr) (kO : ∀ {ρ : Type} {p : Option ρ}, gO Θ h 0 f p = p) (hw : pw = gO Θ h 0 f (bx pf (fun v2 h1 => (jn (fun (h6 : mH) (s7 : Int64) => (bo (aWL Θ h6 (f + 166) (J 0) s7) (fun h8 => (some ((J 0), h8))))) (fun j5 => (if v2 = 0 then (j5 h1 (0 : Int64)) else (j5 h1 (1 : Int64)))))) tw)) (ht : ∀ T : Int, 1 ≤ T → T ≤ 4 → tb T ≠ 0 → ∀ h3, tw (tb T) h3 = some (J T, h3)) : LPz Θ f i rc (bc pw (fun v73 h72 => (gO Θ h72 9 (f + 157) (bc (pr h72) (fun v80 h79 => (gO Θ h79 9 (f + 157) (bc (P_R_thrown Θ N h79 (f + 157)) (fun v82 h81 => (if v82 = v73 then (if v73 = 0 then (bo (aRL Θ h81 (f + 166) (J 0)) (fun v85 => (if v80 = 0 then (if (lg_cmp v85 (0 : Int64)) = 0 then (rc h81 (J (4 * i) + J 4)) else (some ((J 0), h81))) else (if (lg_cmp v85 (1 : Int64)) = 0 then (rc h81 (J (4 * i) + J 4)) else (some ((J 0), h81)))))) else (rc h81 (J (4 * i) + J 4))) else (some ((J 0), h81))))))))))) := by
  obtain ⟨v, T, h1, a1, a2, a3, a4, a5, a6⟩ := oq_go (N := N) oq
  rw [hw, kO, a1]
  by_cases z : T = 0
  · rcases a4 z with y | y
    · obtain ⟨h2, b1, b2, v', S', h3, c1, c2, c3, c4, c5, c6⟩ := a5 0
      refine ⟨h3, S', ?_, c6⟩
      rw [if_pos z, bx_inl, jn_eq, y, if_pos (show J 0 = (0 : Int32) from rfl)]
      dsimp only
      rw [b1, bo_some, bc_some, b2, c1, bc_some, c2, c3, bc_some, z, if_pos rfl, if_pos (show J 0 = (0 : Int32) from rfl), c5, bo_some, c4 z, y, if_pos (show J 0 = (0 : Int32) from rfl), if_pos (lg_self _)]
    · obtain ⟨h2, b1, b2, v', S', h3, c1, c2, c3, c4, c5, c6⟩ := a5 1
      refine ⟨h3, S', ?_, c6⟩
      rw [if_pos z, bx_inl, jn_eq, y, if_neg (show ¬ J 1 = (0 : Int32) by decide)]
      dsimp only
      rw [b1, bo_some, bc_some, b2, c1, bc_some, c2, c3, bc_some, z, if_pos rfl, if_pos (show J 0 = (0 : Int32) from rfl), c5, bo_some, c4 z, y, if_neg (show ¬ J 1 = (0 : Int32) by decide), if_pos (lg_self _)]
  · obtain ⟨b2, v', S', h3, c1, c2, c3, c6⟩ := a6
    refine ⟨h3, S', ?_, c6⟩
    rw [if_neg z, bx_inr, ht T (by omega) (by omega) (a3 z), bc_some, b2, c1, bc_some, c2, c3, bc_some, if_pos rfl, if_neg (show ¬ J T = (0 : Int32) by rw [J_eq0] <;> omega)]
theorem br_N (on : OPn Θ f i h S pn pr) (kO : ∀ {ρ : Type} {p : Option ρ}, gO Θ h 0 f p = p) : LPz Θ f i rc (gO Θ h 0 f (bc pn (fun v90 h89 => (gO Θ h89 9 (f + 157) (bc (pr h89) (fun v92 h91 => (if v90 = v92 then (rc h91 (J (4 * i) + J 4)) else (some ((J 0), h91))))))))) := by
  obtain ⟨v, S', h1, a1, a2, a3⟩ := on
  have he : HR Θ (f + 157) S h1 = h1 := a3.2.2.1.2
  have hb := a3.2.2.1.1
  rw [he] at a2
  have go : ∀ {ρ : Type} {p : Option ρ}, gO Θ h1 9 (f + 157) p = p := fun {ρ p} => by
    have := r_O (Θ := Θ) (S := S) hb (p := p)
    rwa [he] at this
  refine ⟨_, S', ?_, a3.ref.1⟩
  rw [kO, a1, bc_some, go, a2, bc_some, if_pos rfl]
theorem br_F (on : OPf Θ f i h S p4 pr4) (kO : ∀ {ρ : Type} {p : Option ρ}, gO Θ h 0 f p = p) : LPz Θ f i rc (gO Θ h 0 f (bc p4 (fun v513 h512 => (if (FP.f2d v513) &&& 0x7fffffffffffffff ≤ 0x7ff0000000000000 then (gO Θ h512 9 (f + 157) (bc (pr4 h512) (fun v515 h514 => (if (FP.f2d v515) &&& 0x7fffffffffffffff ≤ 0x7ff0000000000000 then (if (Op.cmpValue (FP.dcmp (FP.f2d v513) (FP.f2d v515)) .l) = 0 then (rc h514 (J (4 * i) + J 4)) else (if (Op.cmpValue (FP.dcmp (FP.f2d v513) (FP.f2d v513)) .l) = 0 then (some ((J 0), h514)) else (if (Op.cmpValue (FP.dcmp (FP.f2d v515) (FP.f2d v515)) .l) = 0 then (some ((J 0), h514)) else (rc h514 (J (4 * i) + J 4))))) else none)))) else none)))) := by
  obtain ⟨v, S', h1, a1, a2, a3, a4⟩ := on
  have he : HR Θ (f + 157) S h1 = h1 := a4.2.2.1.2
  have hb := a4.2.2.1.1
  rw [he] at a2
  have go : ∀ {ρ : Type} {p : Option ρ}, gO Θ h1 9 (f + 157) p = p := fun {ρ p} => by
    have := r_O (Θ := Θ) (S := S) hb (p := p)
    rwa [he] at this
  have nn := f2d_nn a3
  refine ⟨_, S', ?_, a4.ref.1⟩
  rw [kO, a1, bc_some, if_pos (vn64 nn), go, a2, bc_some, if_pos (vn64 nn), if_pos (cmp_self nn)]
theorem br_D (oq : OQd Θ f i h S pd prd) (kO : ∀ {ρ : Type} {p : Option ρ}, gO Θ h 0 f p = p) (hw : pw = gO Θ h 0 f (bx pd (fun v2 h1 => (bo (aWD Θ h1 (f + 167) (J 0) v2) (fun h5 => (some ((J 0), h5))))) (fun n9 h3 => if n9 = 15 then (some ((J 1), h3)) else none))) : LPz Θ f i rc (bc pw (fun v502 h501 => (gO Θ h501 9 (f + 157) (bc (prd h501) (fun v504 h503 => (gO Θ h503 9 (f + 157) (bc (P_R_thrown Θ N h503 (f + 157)) (fun v506 h505 => (if v506 = v502 then (if v502 = 0 then (bo (aRD Θ h505 (f + 167) (J 0)) (fun v509 => (if (Op.cmpValue (FP.dcmp v509 v504) .l) = 0 then (rc h505 (J (4 * i) + J 4)) else (bo (aRD Θ h505 (f + 167) (J 0)) (fun v510 => (bo (aRD Θ h505 (f + 167) (J 0)) (fun v511 => (if (Op.cmpValue (FP.dcmp v510 v511) .l) = 0 then (some ((J 0), h505)) else (if (Op.cmpValue (FP.dcmp v504 v504) .l) = 0 then (some ((J 0), h505)) else (rc h505 (J (4 * i) + J 4))))))))))) else (rc h505 (J (4 * i) + J 4))) else (some ((J 0), h505))))))))))) := by
  obtain ⟨v, v', T, h1, S', a1, a2, a3, a4, a5, a6, a7⟩ := oq
  rw [hw, kO, a1]
  by_cases z : T = 0
  · obtain ⟨h2, b1, b2, b3⟩ := zw_aWD a7 v
    have hb := b2.2.2.1.1
    have he : HR Θ (f + 157) S h2 = h2 := b2.2.2.1.2
    have c1 := a4 h2 hb
    rw [he] at c1
    have go : ∀ {ρ : Type} {p : Option ρ}, gO Θ h2 9 (f + 157) p = p := fun {ρ p} => by
      have := r_O (Θ := Θ) (S := S) hb (p := p)
      rwa [he] at this
    refine ⟨_, S', ?_, b2.ref.1⟩
    rw [if_pos z, bx_inl, b1, bo_some, bc_some, go, c1, bc_some, r_O hb, q_thrown hb, bc_some, a5, z, if_pos rfl, if_pos (show J 0 = (0 : Int32) from rfl), b3, bo_some, a6 z, if_pos (cmp_self (a3 z))]
  · have hb := a7.2.2.1.1
    have he : HR Θ (f + 157) S h1 = h1 := a7.2.2.1.2
    have c1 := a4 h1 hb
    rw [he] at c1
    have go : ∀ {ρ : Type} {p : Option ρ}, gO Θ h1 9 (f + 157) p = p := fun {ρ p} => by
      have := r_O (Θ := Θ) (S := S) hb (p := p)
      rwa [he] at this
    have t1 : T = 1 := by omega
    refine ⟨_, S', ?_, a7.ref.1⟩
    rw [if_neg z, bx_inr, if_pos rfl, bc_some, go, c1, bc_some, r_O hb, q_thrown hb, bc_some, a5, t1, if_pos rfl, if_neg (show ¬ J 1 = (0 : Int32) by decide)]
end LW
