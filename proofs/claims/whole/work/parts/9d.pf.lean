/-! all commands of a text -/
section PF0
variable {τ : Int → Int} {n : Int}
def ra (τ : Int → Int) (n : Int) : Nat → Int → Int × List (Nat × List Int)
  | 0, p => (p, [])
  | r + 1, p => match (cmd τ n p).2 with
    | none => ((cmd τ n p).1, [])
    | some c => if n ≤ (cmd τ n p).1 then (-1, [c]) else if τ (cmd τ n p).1 = 59 then ((ra τ n r ((cmd τ n p).1 + 1)).1, c :: (ra τ n r ((cmd τ n p).1 + 1)).2) else ((cmd τ n p).1, [c])
theorem nb_ge : ∀ (sp : List Nat) (p : Int) (ns : List Int), p ≤ (nb τ n sp p ns).1 ∧ (p ≤ n → (nb τ n sp p ns).1 ≤ n)
  | [], p, ns => by
    have g := nmv_ge (τ := τ) (n := n) 3 0 p
    rw [nb]
    split <;> dsimp only <;> omega
  | c :: cs, p, ns => by
    have g := nmv_ge (τ := τ) (n := n) 3 0 p
    rw [nb]
    split
    · dsimp only
      omega
    · split
      · have := nb_ge cs ((nmv τ n 3 0 p).2 + 1) (ns ++ [(nmv τ n 3 0 p).1])
        omega
      · dsimp only
        omega
theorem tail1_ge {k : Nat} {p : Int} : p ≤ (tail1 τ n k p).1 ∧ (p ≤ n → (tail1 τ n k p).1 ≤ n) := by
  unfold tail1
  split
  · dsimp only
    omega
  · split
    · have g := nmv_ge (τ := τ) (n := n) 3 0 (p + 1)
      split <;> dsimp only <;> omega
    · exact nb_ge _ _ _
theorem kfx_rng {p : Int} : ∀ (r i : Nat) (f : Int), p ≤ f → p ≤ kfx τ n p r i f ∧ (f ≤ n → kfx τ n p r i f ≤ n)
  | 0, i, f, h => by rw [kfx]; omega
  | r + 1, i, f, h => by
    have l := lcp_n (τ := τ) (n := n) (kw i) p
    have := kfx_rng (p := p) r (i + 1) (max f (p + lcp τ n (kw i) p)) (by omega)
    rw [kfx]
    omega
theorem cmd_rng {p : Int} : p ≤ (cmd τ n p).1 ∧ (p ≤ n → (cmd τ n p).1 ≤ n) := by
  unfold cmd
  cases e : kfd τ n p 12 0 with
  | none => exact kfx_rng 12 0 p (Int.le_refl _)
  | some k =>
    obtain ⟨a, b⟩ := kfd_some 12 0 e
    have l := lcp_n (τ := τ) (n := n) (kw k) p
    have t := tail1_ge (τ := τ) (n := n) (k := k) (p := p + (kw k).length)
    dsimp only
    omega
theorem cmd_some {p : Int} {k : Nat} {ns : List Int} (h : (cmd τ n p).2 = some (k, ns)) : k < 12 ∧ p + 4 ≤ (cmd τ n p).1 := by
  unfold cmd at h ⊢
  cases e : kfd τ n p 12 0 with
  | none => rw [e] at h; cases h
  | some j =>
    rw [e] at h
    obtain ⟨a, b⟩ := kfd_some 12 0 e
    have hl := kw_len ⟨j, by omega⟩
    simp only at hl
    have t := tail1_ge (τ := τ) (n := n) (k := j) (p := p + (kw j).length)
    dsimp only at h ⊢
    split at h
    · cases h
      omega
    · cases h
theorem ra_rng : ∀ (r : Nat) (p : Int), 0 ≤ p → p ≤ n → (ra τ n r p).1 = -1 ∨ (0 ≤ (ra τ n r p).1 ∧ (ra τ n r p).1 ≤ n)
  | 0, p, h, g => Or.inr ⟨h, g⟩
  | r + 1, p, h, g => by
    have c := cmd_rng (τ := τ) (n := n) (p := p)
    rw [ra]
    split
    · right; dsimp only; omega
    · split
      · left; rfl
      · split
        · exact ra_rng r _ (by omega) (by omega)
        · right; dsimp only; omega
theorem ra_cons {r : Nat} {p : Int} (h : (ra τ n (r + 1) p).1 = -1) (hp : 0 ≤ p) : ∃ k ns L, (cmd τ n p).2 = some (k, ns) ∧ sepk τ n (cmd τ n p).1 ∧ (ra τ n (r + 1) p).2 = (k, ns) :: L ∧ ((n ≤ (cmd τ n p).1 ∧ L = []) ∨ ((cmd τ n p).1 < n ∧ τ (cmd τ n p).1 = 59 ∧ ra τ n r ((cmd τ n p).1 + 1) = (-1, L))) := by
  have c := cmd_rng (τ := τ) (n := n) (p := p)
  rw [ra] at h
  cases e : (cmd τ n p).2 with
  | none =>
    rw [e] at h
    dsimp only at h
    omega
  | some x =>
    obtain ⟨k, ns⟩ := x
    rw [e] at h
    dsimp only at h
    by_cases d : n ≤ (cmd τ n p).1
    · refine ⟨k, ns, [], rfl, Or.inl d, ?_, Or.inl ⟨d, rfl⟩⟩
      rw [ra, e]
      dsimp only
      rw [if_pos d]
    · rw [if_neg d] at h
      by_cases f : τ (cmd τ n p).1 = 59
      · rw [if_pos f] at h
        dsimp only at h
        refine ⟨k, ns, (ra τ n r ((cmd τ n p).1 + 1)).2, rfl, Or.inr f, ?_, Or.inr ⟨by omega, f, ?_⟩⟩
        · rw [ra, e]
          dsimp only
          rw [if_neg d, if_pos f]
        · rw [← h]
      · rw [if_neg f] at h
        dsimp only at h
        omega
theorem ra_len : ∀ (r : Nat) (p : Int), 0 ≤ p → p ≤ n → (ra τ n r p).1 = -1 → 5 * ((ra τ n r p).2.length : Int) ≤ n - p + 1
  | 0, p, h, g, e => by
    rw [ra] at e
    dsimp only at e
    omega
  | r + 1, p, h, g, e => by
    obtain ⟨k, ns, L, a, b, c, d⟩ := ra_cons e h
    have s := cmd_some a
    have q := cmd_rng (τ := τ) (n := n) (p := p)
    rw [c, List.length_cons]
    rcases d with ⟨d, rfl⟩ | ⟨d1, d2, d3⟩
    · simp
      omega
    · have := ra_len r ((cmd τ n p).1 + 1) (by omega) (by omega) (by rw [d3])
      rw [d3] at this
      dsimp only at this
      omega
end PF0
section PF
variable {Θ : mW} {N t u q v : Nat} {n : Int} {τ : Int → Int} {T U : Nat → Int → Int} {h : mH}
theorem t_find_L (hN : 2000 ≤ N) (hn : n ≤ 60) {K : mH → Option (Int32 × mH)} : ∀ (r i f : Nat) (T U : Nat → Int → Int) (h : mH), CT Θ t u q v n τ T U h → 0 ≤ T 0 1 → T 0 1 ≤ n → i + r = 60 → n < T 0 1 + 5 * r → r < f → ∃ h2 T2 U2, P_T_findError_6 Θ N K t f h (J i) = some (J (ra τ n r (T 0 1)).1, h2) ∧ CT Θ t u q v n τ T2 U2 h2 ∧ Nx Θ h h2 (TU t u) 0 0 ∧ ((ra τ n r (T 0 1)).1 = -1 → T2 0 3 = T 0 3 + (ra τ n r (T 0 1)).2.length) := by
  intro r
  induction r with
  | zero => intro i f T U h c p0 p1 hi hr hf; omega
  | succ r ih =>
    intro i f T U h c p0 p1 hi hr hf
    obtain ⟨f, rfl⟩ : ∃ n', f = n' + 1 := ⟨f - 1, by omega⟩
    obtain ⟨h1, T1, U1, b1, b2, b3, b4, b5⟩ := t_readNext (N := N) hN hn c p0 p1
    have cr := cmd_rng (τ := τ) (n := n) (p := T 0 1)
    rw [E_T_findError_6, B_T_findError_6, if_neg (by rw [J_le] <;> omega), ct_O c, ra]
    cases e : (cmd τ n (T 0 1)).2 with
    | none =>
      rw [b4 (Or.inl e), bc_some, if_pos (show J 0 = (0 : Int32) from rfl), ct_2 b1, bo_some, b3]
      refine ⟨h1, T1, U1, rfl, b1, b2, fun z => ?_⟩
      dsimp only at z
      omega
    | some x =>
      obtain ⟨k, ns⟩ := x
      have cs := cmd_some e
      dsimp only
      by_cases d : n ≤ (cmd τ n (T 0 1)).1
      · obtain ⟨y1, y2, y3, y4, y5⟩ := b5 k ns e (Or.inl d)
        rw [if_pos d, y1, bc_some, if_neg (show ¬ J 1 = (0 : Int32) by decide), ct_1 b1, bo_some, ct_q b1, bo_some, sb_O b1.2.2.1, ct_len b1, bc_some, y2, if_neg (by rw [J_le] <;> omega)]
        exact ⟨h1, T1, U1, rfl, b1, b2, fun _ => by rw [y3]; rfl⟩
      · rw [if_neg d]
        by_cases g : τ (cmd τ n (T 0 1)).1 = 59
        · obtain ⟨y1, y2, y3, y4, y5⟩ := b5 k ns e (Or.inr g)
          obtain ⟨h2, T2, U2, w1, w2, w3, w4⟩ := ih (i + 1) f T1 U1 h1 b1 (by rw [y2]; omega) (by rw [y2]; omega) (by omega) (by rw [y2]; omega) (by omega)
          rw [y2] at w1 w4
          rw [if_pos g, y1, bc_some, if_neg (show ¬ J 1 = (0 : Int32) by decide), ct_1 b1, bo_some, ct_q b1, bo_some, sb_O b1.2.2.1, ct_len b1, bc_some, y2, if_pos (by rw [J_le] <;> omega), J_add, show (i : Int) + 1 = ((i + 1 : Nat) : Int) by omega]
          refine ⟨h2, T2, U2, w1, w2, (b2.trans w3).up (Nat.le_refl 0) (Nat.le_refl 0), fun z => ?_⟩
          have := w4 z
          rw [List.length_cons]
          omega
        · rw [if_neg g, b4 (Or.inr (fun z => z.elim d g)), bc_some, if_pos (show J 0 = (0 : Int32) from rfl), ct_2 b1, bo_some, b3]
          refine ⟨h1, T1, U1, rfl, b1, b2, fun z => ?_⟩
          dsimp only at z
          omega
theorem t_findError (hN : 2000 ≤ N) (hn : n ≤ 60) (c : CT Θ t u q v n τ T U h) : ∃ h2 T2 U2, P_T_findError Θ N h t = some (J (ra τ n 60 0).1, h2) ∧ CT Θ t u q v n τ T2 U2 h2 ∧ Nx Θ h h2 (TU t u) 0 0 ∧ ((ra τ n 60 0).1 = -1 → T2 0 3 = (ra τ n 60 0).2.length) := by
  have n0 := sb_0 c.2.2.1
  obtain ⟨h1, T1, a1, a2, a3, a4, a5, a6⟩ := t_rewind (N := N) c
  obtain ⟨h2, T2, U2, w1, w2, w3, w4⟩ := t_find_L (Θ := Θ) (N := N) (K := fun h10 => (bo (rI Θ h10 7 t 2) (fun v11 => (some (v11, h10))))) hN hn 60 0 N T1 U h1 a2 (by omega) (by omega) (by omega) (by omega) (by omega)
  rw [a4] at w1 w4
  refine ⟨h2, T2, U2, ?_, w2, (a3.trans w3).up (Nat.le_refl 0) (Nat.le_refl 0), fun z => by rw [w4 z, a5]; omega⟩
  unfold P_T_findError
  rw [ct_O c, a1, bc_some]
  exact w1
end PF
