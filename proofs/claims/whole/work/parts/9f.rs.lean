/-! the reference reads commands, on -/
section RS0
variable {S : Nat → Int → Int} {τ : Int → Int} {n : Int}
theorem st_up {w p v j : Int} {a : Nat} (h : a ≠ 0 ∨ (j ≠ 16 ∧ j ≠ 17)) : up2 (st3 S w p) a j v = st3 (up2 S a j v) w p := by
  unfold st3
  funext b i
  simp only [up2_at]
  by_cases c1 : b = a ∧ i = j
  · rw [if_pos c1, if_neg (by omega), if_neg (by omega), if_pos c1]
  · rw [if_neg c1]
    by_cases c2 : b = 0 ∧ i = 16
    · rw [if_pos c2, if_pos c2]
    · rw [if_neg c2, if_neg c2]
      by_cases c3 : b = 0 ∧ i = 17
      · rw [if_pos c3, if_pos c3]
      · rw [if_neg c3, if_neg c3, if_neg c1]
/-- a reading in the reference's way ends as R -/
def eqR (w p : Int) (R : Int × Bool × List Int) : Prop := (R.2.1 = true → w = -1 ∧ p = R.1) ∧ (R.2.1 = false → w = R.1)
theorem L0 {p : Int} {ns : List Int} : eqR (nr τ n (-1) p).1 (nr τ n (-1) p).2.1 (nb τ n [] p ns) ∧ ((nb τ n [] p ns).2.1 = true → (nb τ n [] p ns).2.2 = ns ++ [(nr τ n (-1) p).2.2]) := by
  unfold eqR nr
  rw [nb, if_neg (show ¬ (-1 : Int) ≠ -1 by omega)]
  by_cases d : (nmv τ n 3 0 p).2 = p
  · rw [if_pos d, if_pos d]
    exact ⟨⟨fun z => (by cases z), fun _ => rfl⟩, fun z => (by cases z)⟩
  · rw [if_neg d, if_neg d]
    exact ⟨⟨fun _ => ⟨rfl, rfl⟩, fun z => (by cases z)⟩, fun _ => rfl⟩
theorem L1 {p : Int} {ns : List Int} {c : Nat} (hp : 0 ≤ p) : eqR (nbr τ n c (nr τ n (-1) p).1 (nr τ n (-1) p).2.1).1 (nbr τ n c (nr τ n (-1) p).1 (nr τ n (-1) p).2.1).2.1 (nb τ n [c] p ns) ∧ ((nb τ n [c] p ns).2.1 = true → (nb τ n [c] p ns).2.2 = ns ++ [(nr τ n (-1) p).2.2, (nbr τ n c (nr τ n (-1) p).1 (nr τ n (-1) p).2.1).2.2]) := by
  have en : nr τ n (-1) p = if (nmv τ n 3 0 p).2 = p then (p, p, 0) else (-1, (nmv τ n 3 0 p).2, (nmv τ n 3 0 p).1) := by
    unfold nr
    rw [if_neg (show ¬ (-1 : Int) ≠ -1 by omega)]
  have eb : nb τ n [c] p ns = if (nmv τ n 3 0 p).2 = p then (p, false, ns) else if (nmv τ n 3 0 p).2 < n ∧ τ (nmv τ n 3 0 p).2 = c then nb τ n [] ((nmv τ n 3 0 p).2 + 1) (ns ++ [(nmv τ n 3 0 p).1]) else ((nmv τ n 3 0 p).2, false, ns ++ [(nmv τ n 3 0 p).1]) := rfl
  rw [en, eb]
  by_cases d : (nmv τ n 3 0 p).2 = p
  · rw [if_pos d, if_pos d]
    unfold nbr eqR
    rw [if_pos (show p ≠ -1 by omega)]
    exact ⟨⟨fun z => (by cases z), fun _ => rfl⟩, fun z => (by cases z)⟩
  · rw [if_neg d, if_neg d]
    generalize (nmv τ n 3 0 p).2 = e
    generalize (nmv τ n 3 0 p).1 = x
    dsimp only
    unfold nbr
    rw [if_neg (show ¬ (-1 : Int) ≠ -1 by omega)]
    by_cases f : e < n ∧ τ e = c
    · rw [if_pos f, if_pos f]
      obtain ⟨a, b⟩ := L0 (τ := τ) (n := n) (p := e + 1) (ns := ns ++ [x])
      refine ⟨a, fun z => ?_⟩
      rw [b z, List.append_assoc]
      rfl
    · rw [if_neg f, if_neg f]
      unfold eqR
      exact ⟨⟨fun z => (by cases z), fun _ => rfl⟩, fun z => (by cases z)⟩
theorem L2 {p : Int} {ns : List Int} {c d : Nat} (hp : 0 ≤ p) : eqR (nbr τ n d (nbr τ n c (nr τ n (-1) p).1 (nr τ n (-1) p).2.1).1 (nbr τ n c (nr τ n (-1) p).1 (nr τ n (-1) p).2.1).2.1).1 (nbr τ n d (nbr τ n c (nr τ n (-1) p).1 (nr τ n (-1) p).2.1).1 (nbr τ n c (nr τ n (-1) p).1 (nr τ n (-1) p).2.1).2.1).2.1 (nb τ n [c, d] p ns) ∧ ((nb τ n [c, d] p ns).2.1 = true → (nb τ n [c, d] p ns).2.2 = ns ++ [(nr τ n (-1) p).2.2, (nbr τ n c (nr τ n (-1) p).1 (nr τ n (-1) p).2.1).2.2, (nbr τ n d (nbr τ n c (nr τ n (-1) p).1 (nr τ n (-1) p).2.1).1 (nbr τ n c (nr τ n (-1) p).1 (nr τ n (-1) p).2.1).2.1).2.2]) := by
  have g := nmv_ge (τ := τ) (n := n) 3 0 p
  have en : nr τ n (-1) p = if (nmv τ n 3 0 p).2 = p then (p, p, 0) else (-1, (nmv τ n 3 0 p).2, (nmv τ n 3 0 p).1) := by
    unfold nr
    rw [if_neg (show ¬ (-1 : Int) ≠ -1 by omega)]
  have eb : nb τ n [c, d] p ns = if (nmv τ n 3 0 p).2 = p then (p, false, ns) else if (nmv τ n 3 0 p).2 < n ∧ τ (nmv τ n 3 0 p).2 = c then nb τ n [d] ((nmv τ n 3 0 p).2 + 1) (ns ++ [(nmv τ n 3 0 p).1]) else ((nmv τ n 3 0 p).2, false, ns ++ [(nmv τ n 3 0 p).1]) := rfl
  have no : ∀ (y w q : Int), w ≠ -1 → nbr τ n y w q = (w, q, 0) := fun y w q hw => by unfold nbr; rw [if_pos hw]
  rw [en, eb]
  by_cases o : (nmv τ n 3 0 p).2 = p
  · rw [if_pos o, if_pos o]
    dsimp only
    rw [no c p p (by omega)]
    dsimp only
    rw [no d p p (by omega)]
    unfold eqR
    exact ⟨⟨fun z => (by cases z), fun _ => rfl⟩, fun z => (by cases z)⟩
  · rw [if_neg o, if_neg o]
    generalize (nmv τ n 3 0 p).2 = e at g
    generalize (nmv τ n 3 0 p).1 = x
    dsimp only
    have e1 : nbr τ n c (-1) e = if e < n ∧ τ e = c then nr τ n (-1) (e + 1) else (e, e, 0) := by
      unfold nbr
      rw [if_neg (show ¬ (-1 : Int) ≠ -1 by omega)]
    rw [e1]
    by_cases f : e < n ∧ τ e = c
    · rw [if_pos f, if_pos f]
      obtain ⟨a, b⟩ := L1 (τ := τ) (n := n) (p := e + 1) (ns := ns ++ [x]) (c := d) (by omega)
      refine ⟨a, fun z => ?_⟩
      rw [b z, List.append_assoc]
      rfl
    · rw [if_neg f, if_neg f]
      dsimp only
      rw [no d e e (by omega)]
      unfold eqR
      exact ⟨⟨fun z => (by cases z), fun _ => rfl⟩, fun z => (by cases z)⟩
end RS0
section RS1
variable {Θ : mW} {N m : Nat} {S : Nat → Int → Int} {h : mH} {n : Int}
/-- what reading a command leaves of the reference -/
def rcO (S S' : Nat → Int → Int) (d : Int) : Prop := (∀ a : Nat, a ≠ 0 → a ≠ 8 → S' a = S a) ∧ (∀ j : Int, j ≠ 16 → j ≠ 17 → j ≠ 18 → S' 0 j = S 0 j) ∧ (∀ j : Int, j < 4 * d → S' 8 j = S 8 j) ∧ S' 0 18 = d + 1
def rcN (S' : Nat → Int → Int) (d : Int) (k : Nat) (ns : List Int) : Prop := S' 8 (4 * d) = k ∧ ∀ (i : Nat) (x : Int), ns[i]? = some x → S' 8 (4 * d + 1 + i) = x
theorem rcO_st {S S2 : Nat → Int → Int} {d w p : Int} (h : rcO S S2 d) : rcO S (st3 S2 w p) d := by
  obtain ⟨a, b, c, e⟩ := h
  exact ⟨fun x x0 x8 => by rw [st_r x0]; exact a x x0 x8, fun j j1 j2 j3 => by rw [st_o j1 j2]; exact b j j1 j2 j3, fun j hj => by rw [st_r (by omega)]; exact c j hj, by rw [st_o (by omega) (by omega)]; exact e⟩
theorem rcO_8 {S S2 : Nat → Int → Int} {d j v : Int} (h : rcO S S2 d) (hj : 4 * d ≤ j) : rcO S (up2 S2 8 j v) d := by
  obtain ⟨a, b, c, e⟩ := h
  exact ⟨fun x x0 x8 => by rw [up2_row x8]; exact a x x0 x8, fun i j1 j2 j3 => by rw [up2_ne (by omega)]; exact b i j1 j2 j3, fun i hi => by rw [up2_nj (by omega)]; exact c i hi, by rw [up2_ne (by omega)]; exact e⟩
theorem RT.of {S S2 : Nat → Int → Int} {d : Int} (h : rcO S S2 d) (r : RT S n) : RT S2 n := by
  obtain ⟨a, b, c⟩ := r
  exact ⟨by rw [h.2.1 15 (by omega) (by omega) (by omega)]; exact a, b, by rw [h.1 5 (by omega) (by omega)]; exact c⟩
theorem s_command (hN : 2000 ≤ N) (hb : bOK Θ 9 m h) (r : RT S n) {p d : Int} (p0 : 0 ≤ p) (p1 : p ≤ n) (hd : S 0 18 = d) (d0 : 0 ≤ d) (d1 : d ≤ 28) : ∃ S' : Nat → Int → Int, P_R_readsCommand Θ N (HR Θ m (st3 S (-1) p) h) m = some ((), HR Θ m S' h) ∧ rcO S S' d ∧ ((cmd (S 5) n p).2 = none → S' 0 17 = (cmd (S 5) n p).1) ∧ (∀ k ns, (cmd (S 5) n p).2 = some (k, ns) → S' 0 17 = -1 ∧ S' 0 16 = (cmd (S 5) n p).1 ∧ rcN S' d k ns) := by
  have n60 := r.2.1
  have i18 : ∀ {X : Nat → Int → Int}, rI Θ (HR Θ m X h) 9 m 18 = some (J (X 0 18)) := fun {X} => r_I18 hb
  unfold P_R_readsCommand
  rw [i18, bo_some, st_o (by omega) (by omega), hd, r_O hb, s_kindHere hN hb r p0 p1, bc_some]
  unfold kd cmd
  cases ek : kfd (S 5) n p 12 0 with
  | none =>
    have kr := kfx_rng (τ := S 5) (n := n) (p := p) 12 0 p (Int.le_refl _)
    have o1 : rcO S (up2 (up2 S 8 (4 * d) (-1)) 0 18 (d + 1)) d := ⟨fun a a0 a8 => by rw [up2_row a0, up2_row a8], fun j j1 j2 j3 => by rw [up2_nj j3, up2_ne (by omega)], fun j hj => by rw [up2_ne (by omega), up2_nj (by omega)], up2_eq⟩
    dsimp only
    rw [r_A19 hb, bo_some, J_mul, r_w8 hb (by omega) (by omega), bo_some, st_up (Or.inl (by omega)), i18, bo_some, st_o (by omega) (by omega), up2_ne (by omega), hd, J_add, r_W18 hb, bo_some, st_up (Or.inr (by omega)), r_I17 hb, bo_some, st_w, if_neg (by rw [J_eq] <;> omega)]
    exact ⟨_, rfl, rcO_st o1, fun _ => st_w, fun k ns z => by cases z⟩
  | some k =>
    obtain ⟨ka, kb⟩ := kfd_some 12 0 ek
    have l := lcp_n (τ := S 5) (n := n) (kw k) p p1
    have o1 : rcO S (up2 (up2 S 8 (4 * d) k) 0 18 (d + 1)) d := ⟨fun a a0 a8 => by rw [up2_row a0, up2_row a8], fun j j1 j2 j3 => by rw [up2_nj j3, up2_ne (by omega)], fun j hj => by rw [up2_ne (by omega), up2_nj (by omega)], up2_eq⟩
    have k8 : up2 (up2 S 8 (4 * d) k) 0 18 (d + 1) 8 (4 * d) = k := by rw [up2_ne (by omega), up2_eq]
    have r1 := RT.of o1 r
    have t5 : up2 (up2 S 8 (4 * d) k) 0 18 (d + 1) 5 = S 5 := o1.1 5 (by omega) (by omega)
    dsimp only
    rw [r_A19 hb, bo_some, J_mul, r_w8 hb (by omega) (by omega), bo_some, st_up (Or.inl (by omega)), i18, bo_some, st_o (by omega) (by omega), up2_ne (by omega), hd, J_add, r_W18 hb, bo_some, st_up (Or.inr (by omega)), r_I17 hb, bo_some, st_w, if_pos rfl]
    generalize hp' : p + ((kw k).length : Int) = p'
    have p0' : 0 ≤ p' := by omega
    have p1' : p' ≤ n := by omega
    generalize up2 (up2 S 8 (4 * d) k) 0 18 (d + 1) = S2 at o1 k8 r1 t5 ⊢
    by_cases c5 : k = 5
    · subst c5
      rw [if_pos (show J ((5 : Nat) : Int) = J 5 from rfl)]
      refine ⟨_, rfl, rcO_st o1, fun z => ?_, fun k' ns z => ?_⟩
      · cases z
      · cases z
        exact ⟨st_w, st_p, by rw [st_r (by omega)]; exact k8, fun i x z => by simp [tail1] at z⟩
    · by_cases c6 : k = 6
      · subst c6
        rw [if_neg (show ¬ J ((6 : Nat) : Int) = J 5 by decide), if_pos (show J ((6 : Nat) : Int) = J 6 from rfl)]
        refine ⟨_, rfl, rcO_st o1, fun z => ?_, fun k' ns z => ?_⟩
        · cases z
        · cases z
          exact ⟨st_w, st_p, by rw [st_r (by omega)]; exact k8, fun i x z => by simp [tail1] at z⟩
      · rw [if_neg (show ¬ J (k : Int) = J 5 by rw [J_eq] <;> omega), if_neg (show ¬ J (k : Int) = J 6 by rw [J_eq] <;> omega), jn_eq, jn_eq]
        have w8 : ∀ (X : Nat → Int → Int) (w q i v : Int), 0 ≤ i → i ≤ 3 → aW Θ (HR Θ m (st3 X w q) h) 0 (m + 8) (J (4 * d + i)) (J v) = some (HR Θ m (st3 (up2 X 8 (4 * d + i) v) w q) h) := fun X w q i v i0 i1 => by rw [r_w8 hb (by omega) (by omega), st_up (Or.inl (by omega))]
        by_cases c7 : k = 7
        · subst c7
          rw [if_pos (show J ((7 : Nat) : Int) = J 7 from rfl), r_O hb, s_letter hb r1 p0' (by omega), bc_some, t5]
          by_cases mi : p' < n ∧ S 5 p' = 45
          · rw [if_pos mi.1, if_pos (by rw [mi.2])]
            dsimp only
            rw [r_A19 hb, bo_some, jn_eq, if_neg (show ¬ J 1 = (0 : Int32) by decide), r_O hb, s_behind hN hb r1 p0' p1' (by omega) (by omega) (by omega) (by omega), bc_some, J_neg, t5]
            dsimp only
            rw [J_add, w8 _ _ _ 1 _ (by omega) (by omega), bo_some, jn_eq, if_neg (show ¬ J ((7 : Nat) : Int) = 0 by decide)]
            dsimp only
            rw [jn_eq, if_neg (show ¬ J ((7 : Nat) : Int) = J 1 by decide), if_neg (show ¬ J ((7 : Nat) : Int) = J 11 by decide)]
            have en : nbr (S 5) n 45 (-1) p' = nr (S 5) n (-1) (p' + 1) := by
              unfold nbr
              rw [if_neg (show ¬ (-1 : Int) ≠ -1 by omega), if_pos mi]
            have et : tail1 (S 5) n 7 p' = if (nmv (S 5) n 3 0 (p' + 1)).2 = p' + 1 then (p' + 1, false, []) else ((nmv (S 5) n 3 0 (p' + 1)).2, true, [-(nmv (S 5) n 3 0 (p' + 1)).1]) := by
              unfold tail1
              rw [if_neg (by omega), if_pos ⟨rfl, mi⟩]
            rw [en, et]
            unfold nr
            rw [if_neg (show ¬ (-1 : Int) ≠ -1 by omega)]
            by_cases z : (nmv (S 5) n 3 0 (p' + 1)).2 = p' + 1
            · rw [if_pos z, if_pos z]
              exact ⟨_, rfl, rcO_st (rcO_8 o1 (by omega)), fun _ => st_w, fun k' ns y => by simp at y⟩
            · rw [if_neg z, if_neg z]
              refine ⟨_, rfl, rcO_st (rcO_8 o1 (by omega)), fun y => by simp at y, fun k' ns y => ?_⟩
              simp at y
              obtain ⟨rfl, rfl⟩ := y
              refine ⟨st_w, st_p, by rw [st_r (by omega), up2_nj (by omega)]; exact k8, fun i x hx => ?_⟩
              have : i = 0 := by
                have := (List.getElem?_eq_some_iff.mp hx).1
                simp at this
                exact this
              subst this
              simp at hx
              rw [st_r (by omega), show 4 * d + 1 + ((0 : Nat) : Int) = 4 * d + 1 by omega, up2_eq]
              exact hx
          · have ln : ¬ J (if p' < n then S 5 p' else -1) = J 45 := by
              by_cases z : p' < n
              · have := r.2.2 p' p0' z
                rw [if_pos z, J_eq] <;> omega
              · rw [if_neg z, J_eq] <;> omega
            rw [if_neg ln]
            dsimp only
            rw [r_A19 hb, bo_some, jn_eq, if_pos (show J 0 = (0 : Int32) from rfl), r_O hb, s_number hN hb r1 p0' p1' (by omega) (by omega), bc_some, t5]
            dsimp only
            rw [J_add, w8 _ _ _ 1 _ (by omega) (by omega), bo_some, jn_eq, if_neg (show ¬ J ((7 : Nat) : Int) = 0 by decide)]
            dsimp only
            rw [jn_eq, if_neg (show ¬ J ((7 : Nat) : Int) = J 1 by decide), if_neg (show ¬ J ((7 : Nat) : Int) = J 11 by decide)]
            have et : tail1 (S 5) n 7 p' = nb (S 5) n [] p' [] := by
              unfold tail1
              rw [if_neg (by omega), if_neg (fun z => mi z.2)]
              rfl
            obtain ⟨⟨a1, a2⟩, a3⟩ := L0 (τ := S 5) (n := n) (p := p') (ns := [])
            rw [et]
            refine ⟨_, rfl, rcO_st (rcO_8 o1 (by omega)), fun y => ?_, fun k' ns y => ?_⟩
            · rw [st_w]
              refine a2 ?_
              simpa using y
            · split at y
              · rename_i tt
                cases y
                refine ⟨by rw [st_w]; exact (a1 tt).1, by rw [st_p]; exact (a1 tt).2, by rw [st_r (by omega), up2_nj (by omega)]; exact k8, fun i x hx => ?_⟩
                rw [a3 tt] at hx
                have : i = 0 := by
                  have := (List.getElem?_eq_some_iff.mp hx).1
                  simp at this
                  exact this
                subst this
                simp at hx
                rw [st_r (by omega), show 4 * d + 1 + ((0 : Nat) : Int) = 4 * d + 1 by omega, up2_eq]
                exact hx
              · cases y
        · have et : tail1 (S 5) n k p' = nb (S 5) n (seps k) p' [] := by
            unfold tail1
            rw [if_neg (by omega), if_neg (fun z => c7 z.1)]
          rw [if_neg (show ¬ J (k : Int) = J 7 by rw [J_eq] <;> omega)]
          dsimp only
          rw [r_A19 hb, bo_some, jn_eq, if_pos (show J 0 = (0 : Int32) from rfl), r_O hb, s_number hN hb r1 p0' p1' (by omega) (by omega), bc_some, t5, et]
          dsimp only
          rw [J_add, w8 _ _ _ 1 _ (by omega) (by omega), bo_some, jn_eq]
          have q1 := nr_rng (S := S) (n := n) (w := -1) (p := p') p0' p1' (by omega) (by omega)
          have o2 : rcO S (up2 S2 8 (4 * d + 1) (nr (S 5) n (-1) p').2.2) d := rcO_8 o1 (by omega)
          have r2 := RT.of o2 r
          have t52 : up2 S2 8 (4 * d + 1) (nr (S 5) n (-1) p').2.2 5 = S 5 := o2.1 5 (by omega) (by omega)
          by_cases c0 : k = 0
          · subst c0
            rw [if_pos (show J ((0 : Nat) : Int) = 0 from rfl), r_A19 hb, bo_some, r_O hb, s_behind hN hb r2 (by omega) (by omega) (by omega) (by omega) (by omega) (by omega), bc_some, t52, J_add, w8 _ _ _ 2 _ (by omega) (by omega), bo_some, r_A19 hb, bo_some, r_O hb]
            have q2 := nbr_rng (S := S) (n := n) (c := 32) (w := (nr (S 5) n (-1) p').1) (p := (nr (S 5) n (-1) p').2.1) (by omega) (by omega) (by omega) (by omega)
            have o3 : rcO S (up2 (up2 S2 8 (4 * d + 1) (nr (S 5) n (-1) p').2.2) 8 (4 * d + 2) (nbr (S 5) n 32 (nr (S 5) n (-1) p').1 (nr (S 5) n (-1) p').2.1).2.2) d := rcO_8 o2 (by omega)
            have t53 := o3.1 5 (by omega) (by omega)
            rw [s_behind hN hb (RT.of o3 r) (by omega) (by omega) (by omega) (by omega) (by omega) (by omega), bc_some, t53, J_add, w8 _ _ _ 3 _ (by omega) (by omega), bo_some]
            dsimp only
            rw [jn_eq, if_neg (show ¬ J ((0 : Nat) : Int) = J 1 by decide), if_neg (show ¬ J ((0 : Nat) : Int) = J 11 by decide)]
            obtain ⟨⟨a1, a2⟩, a3⟩ := L2 (τ := S 5) (n := n) (p := p') (ns := []) (c := 32) (d := 32) p0'
            rw [show seps 0 = [32, 32] from rfl]
            refine ⟨_, rfl, rcO_st (rcO_8 o3 (by omega)), fun y => ?_, fun k' ns y => ?_⟩
            · rw [st_w]
              refine a2 ?_
              simpa using y
            · split at y
              · rename_i tt
                cases y
                refine ⟨by rw [st_w]; exact (a1 tt).1, by rw [st_p]; exact (a1 tt).2, by rw [st_r (by omega), up2_nj (by omega), up2_nj (by omega), up2_nj (by omega)]; exact k8, fun i x hx => ?_⟩
                rw [a3 tt] at hx
                have : i = 0 ∨ i = 1 ∨ i = 2 := by
                  have := (List.getElem?_eq_some_iff.mp hx).1
                  simp at this
                  omega
                rcases this with rfl | rfl | rfl
                · simp at hx
                  rw [st_r (by omega), show 4 * d + 1 + ((0 : Nat) : Int) = 4 * d + 1 by omega, up2_nj (by omega), up2_nj (by omega), up2_eq]
                  exact hx
                · simp at hx
                  rw [st_r (by omega), show 4 * d + 1 + ((1 : Nat) : Int) = 4 * d + 2 by omega, up2_nj (by omega), up2_eq]
                  exact hx
                · simp at hx
                  rw [st_r (by omega), show 4 * d + 1 + ((2 : Nat) : Int) = 4 * d + 3 by omega, up2_eq]
                  exact hx
              · cases y
          · rw [if_neg (show ¬ J (k : Int) = 0 by rw [J_eq0] <;> omega)]
            dsimp only
            have two : ∀ c : Nat, c < 128 → seps k = [c] → ∃ S' : Nat → Int → Int, (bo (rA Θ (HR Θ m (st3 (up2 S2 8 (4 * d + 1) (nr (S 5) n (-1) p').2.2) (nr (S 5) n (-1) p').1 (nr (S 5) n (-1) p').2.1) h) 9 m 19) (fun v21 => (gO Θ (HR Θ m (st3 (up2 S2 8 (4 * d + 1) (nr (S 5) n (-1) p').2.2) (nr (S 5) n (-1) p').1 (nr (S 5) n (-1) p').2.1) h) 9 m (bc (P_R_numberBehind Θ N (HR Θ m (st3 (up2 S2 8 (4 * d + 1) (nr (S 5) n (-1) p').2.2) (nr (S 5) n (-1) p').1 (nr (S 5) n (-1) p').2.1) h) m (J c)) (fun v26 h25 => (bo (aW Θ h25 0 v21 (J (4 * d) + (J 2)) v26) (fun h27 => (some ((), h27)))))))) : Option (Unit × mH)) = some ((), HR Θ m S' h) ∧ rcO S S' d ∧ ((if (nb (S 5) n (seps k) p' []).2.1 = true then some (k, (nb (S 5) n (seps k) p' []).2.2) else none) = none → S' 0 17 = (nb (S 5) n (seps k) p' []).1) ∧ (∀ k' ns, (if (nb (S 5) n (seps k) p' []).2.1 = true then some (k, (nb (S 5) n (seps k) p' []).2.2) else none) = some (k', ns) → S' 0 17 = -1 ∧ S' 0 16 = (nb (S 5) n (seps k) p' []).1 ∧ rcN S' d k' ns) := by
              intro c hc hsp
              rw [r_A19 hb, bo_some, r_O hb, s_behind hN hb r2 (by omega) (by omega) (by omega) (by omega) (by omega) (by omega), bc_some, t52, J_add, w8 _ _ _ 2 _ (by omega) (by omega), bo_some, hsp]
              obtain ⟨⟨a1, a2⟩, a3⟩ := L1 (τ := S 5) (n := n) (p := p') (ns := []) (c := c) p0'
              refine ⟨_, rfl, rcO_st (rcO_8 o2 (by omega)), fun y => ?_, fun k' ns y => ?_⟩
              · rw [st_w]
                refine a2 ?_
                simpa using y
              · split at y
                · rename_i tt
                  cases y
                  refine ⟨by rw [st_w]; exact (a1 tt).1, by rw [st_p]; exact (a1 tt).2, by rw [st_r (by omega), up2_nj (by omega), up2_nj (by omega)]; exact k8, fun i x hx => ?_⟩
                  rw [a3 tt] at hx
                  have : i = 0 ∨ i = 1 := by
                    have := (List.getElem?_eq_some_iff.mp hx).1
                    simp at this
                    omega
                  rcases this with rfl | rfl
                  · simp at hx
                    rw [st_r (by omega), show 4 * d + 1 + ((0 : Nat) : Int) = 4 * d + 1 by omega, up2_nj (by omega), up2_eq]
                    exact hx
                  · simp at hx
                    rw [st_r (by omega), show 4 * d + 1 + ((1 : Nat) : Int) = 4 * d + 2 by omega, up2_eq]
                    exact hx
                · cases y
            rw [jn_eq]
            by_cases c1 : k = 1
            · subst c1
              rw [if_pos (show J ((1 : Nat) : Int) = J 1 from rfl)]
              simp only [jn_eq, if_pos (show J ((1 : Nat) : Int) = J 1 from rfl)]
              exact two 64 (by omega) rfl
            · rw [if_neg (show ¬ J (k : Int) = J 1 by rw [J_eq] <;> omega)]
              by_cases c11 : k = 11
              · subst c11
                rw [if_pos (show J ((11 : Nat) : Int) = J 11 from rfl)]
                simp only [jn_eq, if_neg (show ¬ J ((11 : Nat) : Int) = J 1 by decide)]
                exact two 43 (by omega) rfl
              · rw [if_neg (show ¬ J (k : Int) = J 11 by rw [J_eq] <;> omega), show seps k = [] by unfold seps; rw [if_neg c0, if_neg c1, if_neg c11]]
                obtain ⟨⟨a1, a2⟩, a3⟩ := L0 (τ := S 5) (n := n) (p := p') (ns := [])
                refine ⟨_, rfl, rcO_st o2, fun y => ?_, fun k' ns y => ?_⟩
                · rw [st_w]
                  refine a2 ?_
                  simpa using y
                · split at y
                  · rename_i tt
                    cases y
                    refine ⟨by rw [st_w]; exact (a1 tt).1, by rw [st_p]; exact (a1 tt).2, by rw [st_r (by omega), up2_nj (by omega)]; exact k8, fun i x hx => ?_⟩
                    rw [a3 tt] at hx
                    have : i = 0 := by
                      have := (List.getElem?_eq_some_iff.mp hx).1
                      simp at this
                      exact this
                    subst this
                    simp at hx
                    rw [st_r (by omega), show 4 * d + 1 + ((0 : Nat) : Int) = 4 * d + 1 by omega, up2_eq]
                    exact hx
                  · cases y
end RS1
