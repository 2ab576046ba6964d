/-! the commands of a text, side by side -/
def RP (f : Nat) : Nat → Prop := fun x => KR f x ∨ x = f + 151 ∨ x = f + 154
section RN
variable {Θ : mW} {N f m b q v : Nat} {n k : Int} {τ : Int → Int} {S : Nat → Int → Int} {h : mH} {V0 : Int → Int}
theorem rcL_8 {S2 : Nat → Int → Int} (e : S2 8 = S 8) : ∀ (L : List (Nat × List Int)) (i : Int), rcL S i L → rcL S2 i L
  | [], _, _ => trivial
  | a :: L, i, hh => by
    obtain ⟨h1, h2⟩ := hh
    refine ⟨?_, rcL_8 e L (i + 1) h2⟩
    unfold rcN at h1 ⊢
    rw [e]
    exact h1
theorem run_L (mi : mI Θ) (hN : 2000 ≤ N) (hn : n ≤ 60) {tot : Int} {K : mH → Int32 → Option ((Int32 ⊕ Nat) × mH)} {K2 : mH → Option (Int32 × mH)} : ∀ (L : List (Nat × List Int)) (i : Int) (r : Nat) (c : Int) (h : mH) (S T U : Nat → Int → Int) (w w2 : Nat), KX Θ f c h S (fun B => B = V0) → CT Θ (f + 151) (f + 154) q v n τ T U h → (f + 150 < q ∧ f + 150 < v) → (L = [] ∨ (0 ≤ T 0 1 ∧ T 0 1 ≤ n ∧ ra τ n r (T 0 1) = (-1, L))) → rcL S i L → S 0 18 = tot → i + L.length = tot → 0 ≤ i → tot ≤ 28 → 0 ≤ c → c + L.length ≤ 2000 → L.length < w → L.length < w2 → S 0 13 = 0 → (0 ≤ S 0 8 ∧ S 0 8 ≤ 4) → ∃ (S' : Nat → Int → Int) (h' : mH) (j : Int) (T' U' : Nat → Int → Int), P_F_run_57 Θ N K f (J tot) w h (J i) = K h' (J j) ∧ (∀ h2, bOK Θ 9 m h2 → P_R_run_38 Θ N K2 m w2 (HR Θ m S h2) (J i) = if S' 0 13 = 0 then K2 (HR Θ m S' h2) else some (J 0, HR Θ m (cpy (up2 (up2 S' 0 7 j) 0 13 2) 2 0 1 0 140) h2)) ∧ KX Θ f (c + L.length) h' S' (fun B => B = V0) ∧ CT Θ (f + 151) (f + 154) q v n τ T' U' h' ∧ Nx Θ h h' (RP f) L.length (6 * L.length) ∧ (0 ≤ S' 0 13 ∧ S' 0 13 ≤ 4) ∧ (S' 0 13 = 0 → j = tot) ∧ (S' 0 13 ≠ 0 → 0 ≤ j ∧ j < tot) ∧ (∀ a : Nat, a ≠ 0 → a ≠ 1 → S' a = S a) ∧ (∀ j : Int, j ≠ 8 → j ≠ 13 → S' 0 j = S 0 j) ∧ (0 ≤ S' 0 8 ∧ S' 0 8 ≤ 4) := by
  intro L
  induction L with
  | nil =>
    intro i r c h S T U w w2 kx cc hqv hl hrc h18 hi i0 ht c0 c1 hw hw2 h13 h8
    obtain ⟨w, rfl⟩ : ∃ n', w = n' + 1 := ⟨w - 1, by omega⟩
    obtain ⟨w2, rfl⟩ : ∃ n', w2 = n' + 1 := ⟨w2 - 1, by omega⟩
    simp only [List.length_nil] at hi c1 ⊢
    have e : i = tot := by omega
    refine ⟨S, h, i, T, U, ?_, fun h2 hb => ?_, kx.mono (by omega), cc, Nx.refl.up (by omega) (by omega), by omega, fun _ => e, fun z => (z h13).elim, fun _ _ _ => rfl, fun _ _ _ => rfl, h8⟩
    · rw [E_F_run_57, B_F_run_57, if_pos (by rw [J_le] <;> omega)]
    · rw [E_R_run_38, B_R_run_38, r_I18 hb, bo_some, h18, if_pos (by rw [J_le] <;> omega), if_pos h13]
  | cons a L ih =>
    intro i r c h S T U w w2 kx cc hqv hl hrc h18 hi i0 ht c0 c1 hw hw2 h13 h8
    obtain ⟨w, rfl⟩ : ∃ n', w = n' + 1 := ⟨w - 1, by omega⟩
    obtain ⟨w2, rfl⟩ : ∃ n', w2 = n' + 1 := ⟨w2 - 1, by omega⟩
    simp only [List.length_cons] at hi c1 hw hw2 ⊢
    rcases hl with hl | ⟨p0, p1, hra⟩
    · cases hl
    have hr0 : ∃ r', r = r' + 1 := by
      cases r with
      | zero =>
        rw [ra] at hra
        injection hra with _ z
        cases z
      | succ r => exact ⟨r, rfl⟩
    obtain ⟨r, rfl⟩ := hr0
    obtain ⟨kk, ns, L2, g1, g2, g3, g4⟩ := ra_cons (r := r) (p := T 0 1) (by rw [hra]) p0
    rw [hra] at g3
    dsimp only at g3
    injection g3 with ga gb
    subst ga
    subst gb
    obtain ⟨h2, T2, U2, q1, q2, q3⟩ := t_readNext (N := N) hN hn cc p0 p1
    obtain ⟨-, -, q4⟩ := q3
    obtain ⟨q5, q6, q7, q8, q9⟩ := q4 kk ns g1 g2
    have kx2 : KX Θ f c h2 S (fun B => B = V0) := kx.nx q2 (fun u hu p => by
      unfold KR at hu
      have : u = f + 151 ∨ u = f + 154 := p
      omega)
    have cs := cmd_some g1
    have cn := cmd_ns g1
    have cr := cmd_rng (τ := τ) (n := n) (p := T 0 1)
    obtain ⟨hrc1, hrc2⟩ := hrc
    obtain ⟨vv, S1, h3, b1, b2, b3, b4, b5, b6, b7, b8, b9⟩ := cm_all (N := N) (m := m) (d := i) mi hN kx2 c0 (by omega) q1 cs.1 q8 q9 hrc1 cn.1 cn.2 i0 (by omega)
    have x23 : Nx Θ h h3 (RP f) 1 6 := ((q2.wid (Q := RP f) (fun u _ p => Or.inr p) (Nat.le_refl _) (Nat.le_refl _)).trans (b4.wid (Q := RP f) (fun u _ p => Or.inl p) (Nat.le_refl _) (Nat.le_refl _))).up (by omega) (by omega)
    have cc3 : CT Θ (f + 151) (f + 154) q v n τ T2 U2 h3 := q1.nx b4 (fun u hu p => by unfold KR at p; omega)
    have e8 := b9 h8.1 h8.2
    have cl : ∀ X : Option ((Int32 ⊕ Nat) × mH), (if S1 0 13 = 0 then P_F_run_57 Θ N K f (J tot) w h3 (J (i + 1)) else K h3 (J i)) = X → P_F_run_57 Θ N K f (J tot) (w + 1) h (J i) = X := fun X hX => by
      rw [E_F_run_57, B_F_run_57, if_neg (by rw [J_le] <;> omega), kx.r6, bo_some, ct_O cc, q5, bc_some, if_neg (show ¬ J 1 = (0 : Int32) by decide), kx2.gO, b1, bc_some]
      rw [← hX]
      by_cases z : S1 0 13 = 0
      · rw [if_pos z, if_pos z, if_neg (show ¬ J 1 = (0 : Int32) by decide), J_add]
      · rw [if_neg z, if_neg z, if_pos (show J 0 = (0 : Int32) from rfl)]
    have rl : ∀ h2, bOK Θ 9 m h2 → P_R_run_38 Θ N K2 m (w2 + 1) (HR Θ m S h2) (J i) = if S1 0 13 = 0 then P_R_run_38 Θ N K2 m w2 (HR Θ m S1 h2) (J (i + 1)) else some (J 0, HR Θ m (cpy (up2 (up2 S1 0 7 i) 0 13 2) 2 0 1 0 140) h2) := fun h2 hb => by
      rw [E_R_run_38, B_R_run_38, r_I18 hb, bo_some, h18, if_neg (by rw [J_le] <;> omega), r_O hb, J_mul, b2 h2 hb, bc_some, r_I13 hb, bo_some]
      by_cases z : S1 0 13 = 0
      · rw [if_pos z, if_pos (by rw [z]; rfl), J_add]
      · rw [if_neg z, if_neg (show ¬ J (S1 0 13) = (0 : Int32) by rw [J_eq0] <;> omega), r_W7 hb, bo_some, r_W13 hb, bo_some, r_A1 hb, bo_some, r_A0 hb, bo_some, s_copies hN hb (by omega) (by omega) (by decide) (by omega) (by decide) (by decide) (by decide), bc_some]
    by_cases z : S1 0 13 = 0
    · have hl2 : L = [] ∨ (0 ≤ T2 0 1 ∧ T2 0 1 ≤ n ∧ ra τ n r (T2 0 1) = (-1, L)) := by
        rcases g4 with ⟨-, g4⟩ | ⟨g4, -, g5⟩
        · exact Or.inl g4
        · exact Or.inr ⟨by omega, by omega, by rw [q6]; exact g5⟩
      obtain ⟨S', h', j, T', U', y1, y2, y3, y4, y5, y6, y7, y8, y9, y10, y11⟩ := ih (i + 1) r (c + 1) h3 S1 T2 U2 w w2 b3 cc3 hqv hl2 (rcL_8 (b7 8 (by decide) (by decide)) L (i + 1) hrc2) (by rw [b8 18 (by decide) (by decide)]; exact h18) (by omega) (by omega) ht (by omega) (by omega) (by omega) (by omega) z e8
      refine ⟨S', h', j, T', U', cl _ (by rw [if_pos z]; exact y1), fun h2 hb => by rw [rl h2 hb, if_pos z]; exact y2 h2 hb, y3.mono (by omega), y4, (x23.trans y5).up (by omega) (by omega), y6, y7, y8, fun a a0 a1 => (y9 a a0 a1).trans (b7 a a0 a1), fun j j8 j3 => (y10 j j8 j3).trans (b8 j j8 j3), y11⟩
    · refine ⟨S1, h3, i, T2, U2, cl _ (by rw [if_neg z]), fun h2 hb => by rw [rl h2 hb, if_neg z, if_neg z], b3.mono (by omega), cc3, x23.up (by omega) (by omega), b5, fun y => (z y).elim, fun _ => ⟨i0, by omega⟩, b7, b8, e8⟩
end RN
