/-! the whole world: class and reference -/
def WA (Θ : mW) (f : Nat) (h : mH) (S : Nat → Int → Int) : Prop := (∃ v1 v2 T U, CT Θ (f + 151) (f + 154) (f + 152) v1 (S 0 10) (S 5) T U h ∧ SBs Θ (f + 155) v2 (S 0 12) (S 6) h ∧ ((v1 = f + 153 ∨ f + 168 ≤ v1) ∧ (v2 = f + 156 ∨ f + 168 ≤ v2) ∧ v1 ≠ v2)) ∧ (∃ G, HB Θ shG (f + 146) G h) ∧ (∃ g, gt Θ h (f + 166) = some (aL 1 g)) ∧ (∃ g, gt Θ h (f + 167) = some (aD 1 g))
def WN (k : Int) (S : Nat → Int → Int) : Prop := (0 ≤ S 0 10 ∧ S 0 10 ≤ 60 ∧ S 0 10 ≤ k) ∧ (0 ≤ S 0 12 ∧ S 0 12 ≤ 60) ∧ (0 ≤ S 0 8 ∧ S 0 8 ≤ 4) ∧ (-1 ≤ S 0 6 ∧ S 0 6 ≤ 100) ∧ (-1 ≤ S 0 7 ∧ S 0 7 ≤ 100)
def sz0 : Nat := 9000
def WZ (k : Int) (h : mH) : Prop := (h.length : Int) ≤ 168 + 100 * k ∧ (msz h : Int) ≤ sz0 + 10000 * k
def ZW (Θ : mW) (f : Nat) (k : Int) (h : mH) (S S' : Nat → Int → Int) : Prop := KX Θ f (k - S' 0 10) h S' (fun _ => False) ∧ WA Θ f h S' ∧ HB Θ shR (f + 157) S h ∧ WN k S' ∧ WZ k h
section WO
variable {Θ : mW} {N f : Nat} {c k : Int} {S S' S2 : Nat → Int → Int} {h h2 : mH} {bO : (Int → Int) → Prop} {P : Nat → Prop} {y z : Nat} {tb : Int → Nat} {vp : Int → Prop}
theorem shR_l : shR.length = 9 := rfl
theorem CT.nx {t u q v : Nat} {n : Int} {τ : Int → Int} {T U : Nat → Int → Int} (cc : CT Θ t u q v n τ T U h) (x : Nx Θ h h2 P y z) (hp : ∀ x, (x = t ∨ x = u ∨ x = q ∨ x = v) → ¬ P x) : CT Θ t u q v n τ T U h2 := by
  obtain ⟨c1, c2, c3, c4⟩ := cc
  have l1 : shT.length = 1 := rfl
  have l2 : shN.length = 1 := rfl
  exact ⟨c1.nx x (fun uu ua ub => hp uu (by omega)), c2.nx x (fun uu ua ub => hp uu (by omega)), sb_nx c3 x (hp _ (Or.inr (Or.inr (Or.inl rfl)))) (hp _ (Or.inr (Or.inr (Or.inr rfl)))), c4⟩
theorem WA.nx (ww : WA Θ f h S) (x : Nx Θ h h2 P y z) (hp : ∀ x, P x → x < f + 146 ∨ (f + 157 ≤ x ∧ x < f + 166)) : WA Θ f h2 S := by
  obtain ⟨⟨v1, v2, T, U, a1, a2, a3⟩, ⟨G, a4⟩, ⟨g, a5⟩, ⟨g2, a6⟩⟩ := ww
  have l5 : shG.length = 5 := rfl
  have np : ∀ u, (f + 146 ≤ u ∧ u < f + 157) ∨ f + 166 ≤ u → ¬ P u := fun u hu q => by
    have := hp u q
    omega
  have gx : ∀ (u : Nat) (e : mE), f + 166 ≤ u → gt Θ h u = some e → gt Θ h2 u = some e := fun u e hu ge => by
    have g1 := (gt_some ge).1
    have g2 := gt_lt ge
    rw [x.2.2 u (by omega) (np u (Or.inr hu))]
    exact ge
  refine ⟨⟨v1, v2, T, U, a1.nx x (fun u hu => np u ?_), sb_nx a2 x (np _ (by omega)) (np _ (by omega)), a3⟩, ⟨G, a4.nx x (fun u u1 u2 => np u (by omega))⟩, ⟨g, gx _ _ (by omega) a5⟩, ⟨g2, gx _ _ (by omega) a6⟩⟩
  omega
theorem WA.sm (w : WA Θ f h S) (e1 : S2 0 10 = S 0 10) (e2 : S2 0 12 = S 0 12) (e5 : S2 5 = S 5) (e6 : S2 6 = S 6) : WA Θ f h S2 := by
  unfold WA at w ⊢
  rw [e1, e2, e5, e6]
  exact w
theorem WZ.nx (w : WZ k h) (x : Nx Θ h h2 P y z) (hy : y ≤ 100) (hz : z ≤ 10000) : WZ (k + 1) h2 := by
  obtain ⟨q1, q2⟩ := w
  obtain ⟨x1, x2, -⟩ := x
  exact ⟨by omega, by omega⟩
/-- the reference goes on -/
theorem ZW.ref (w : ZW Θ f k h S S') : ZW Θ f k (HR Θ (f + 157) S' h) S' S' ∧ bOK Θ 9 (f + 157) h ∧ HR Θ (f + 157) S h = h := by
  obtain ⟨w1, w2, w3, w4, w5⟩ := w
  have x := Nx.bk (D2 := S') w3
  rw [shR_l] at x
  refine ⟨⟨w1.nx x (fun u hu p => ?_), w2.nx x (fun u p => ?_), HB.self w3.1, w4, ?_⟩, w3.1, w3.2⟩
  · unfold KR at hu; omega
  · exact Or.inr ⟨by omega, by omega⟩
  · have l1 : (HR Θ (f + 157) S' h).length = h.length := BK_len
    have l2 : msz (HR Θ (f + 157) S' h) = msz h := w3.msz
    unfold WZ at w5 ⊢
    rw [l1, l2]
    exact w5
end WO
