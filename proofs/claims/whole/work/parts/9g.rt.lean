/-! the reference reads all commands -/
section RT1
variable {Θ : mW} {N m : Nat} {S : Nat → Int → Int} {h : mH} {n : Int}
/-- all commands lie in the row of numbers, from place d on -/
def rcL (S' : Nat → Int → Int) : Int → List (Nat × List Int) → Prop
  | _, [] => True
  | d, c :: L => rcN S' d c.1 c.2 ∧ rcL S' (d + 1) L
theorem rcN_fr {S S2 : Nat → Int → Int} {d e : Int} {k : Nat} {ns : List Int} (h : rcN S d k ns) (hl : ns.length ≤ 3) (he : d < e) (g : ∀ j : Int, j < 4 * e → S2 8 j = S 8 j) : rcN S2 d k ns := by
  refine ⟨by rw [g _ (by omega)]; exact h.1, fun i x hx => ?_⟩
  have := (List.getElem?_eq_some_iff.mp hx).1
  rw [g _ (by omega)]
  exact h.2 i x hx
theorem nb_len {τ : Int → Int} : ∀ (sp : List Nat) (p : Int) (ns : List Int), (nb τ n sp p ns).2.2.length ≤ ns.length + 1 + sp.length
  | [], p, ns => by
    rw [nb]
    split
    · dsimp only; omega
    · dsimp only; rw [List.length_append]; simp
  | c :: cs, p, ns => by
    rw [nb]
    split
    · dsimp only; omega
    · split
      · have := nb_len (τ := τ) cs ((nmv τ n 3 0 p).2 + 1) (ns ++ [(nmv τ n 3 0 p).1])
        rw [List.length_append, List.length_singleton] at this
        rw [List.length_cons]
        omega
      · dsimp only; rw [List.length_append, List.length_cons]; simp
theorem cmd_len {τ : Int → Int} {p : Int} {k : Nat} {ns : List Int} (h : (cmd τ n p).2 = some (k, ns)) : ns.length ≤ 3 := by
  unfold cmd at h
  cases e : kfd τ n p 12 0 with
  | none => rw [e] at h; cases h
  | some j =>
    rw [e] at h
    dsimp only at h
    split at h
    · cases h
      unfold tail1
      split
      · simp
      · split
        · split <;> simp
        · have := nb_len (τ := τ) (n := n) (seps k) (p + (kw k).length) []
          have s : (seps k).length ≤ 2 := by unfold seps; repeat' split
                                             all_goals simp
          simp at this
          omega
    · cases h
/-- what reading leaves -/
def raO (S S' : Nat → Int → Int) (d : Int) : Prop := (∀ a : Nat, a ≠ 0 → a ≠ 8 → S' a = S a) ∧ (∀ j : Int, j ≠ 16 → j ≠ 17 → j ≠ 18 → S' 0 j = S 0 j) ∧ (∀ j : Int, j < 4 * d → S' 8 j = S 8 j)
theorem s_all_L (hN : 2000 ≤ N) (hb : bOK Θ 9 m h) {K : mH → Option (Unit × mH)} : ∀ (r : Nat) (d p : Int) (S : Nat → Int → Int) (f : Nat), RT S n → 0 ≤ p → p ≤ n → S 0 18 = d → 0 ≤ d → 5 * d ≤ p → n < p + 5 * r → r < f → ∃ S' : Nat → Int → Int, bc (P_R_readsCommand Θ N (HR Θ m (st3 S (-1) p) h) m) (fun _ h7 => P_R_readsAll_32 Θ N K m f h7) = K (HR Θ m S' h) ∧ raO S S' d ∧ S' 0 17 = (ra (S 5) n r p).1 ∧ ((ra (S 5) n r p).1 = -1 → S' 0 18 = d + (ra (S 5) n r p).2.length ∧ rcL S' d (ra (S 5) n r p).2) := by
  intro r
  induction r with
  | zero => intro d p S f rt p0 p1 hd d0 d5 hr hf; omega
  | succ r ih =>
    intro d p S f rt p0 p1 hd d0 d5 hr hf
    obtain ⟨f, rfl⟩ : ∃ n', f = n' + 1 := ⟨f - 1, by omega⟩
    have n60 := rt.2.1
    obtain ⟨S1, a1, a2, a3, a4⟩ := s_command (N := N) hN hb rt p0 p1 hd d0 (by omega)
    have cr := cmd_rng (τ := S 5) (n := n) (p := p)
    have rt1 := RT.of a2 rt
    have e5 : S1 5 = S 5 := a2.1 5 (by omega) (by omega)
    have ss : S1 = st3 S1 (S1 0 17) (S1 0 16) := st_self.symm
    rw [a1, bc_some, E_R_readsAll_32, B_R_readsAll_32, r_I17 hb, bo_some, ra]
    cases ec : (cmd (S 5) n p).2 with
    | none =>
      have w := a3 ec
      rw [if_neg (by rw [w, J_eq] <;> omega)]
      refine ⟨S1, rfl, ⟨a2.1, a2.2.1, a2.2.2.1⟩, w, fun z => ?_⟩
      dsimp only at z
      omega
    | some x =>
      obtain ⟨k, ns⟩ := x
      obtain ⟨w1, w2, w3⟩ := a4 k ns ec
      have cs := cmd_some ec
      have cl := cmd_len ec
      rw [if_pos (by rw [w1]), r_I16 hb, bo_some, r_I15 hb, bo_some, w2, rt1.1]
      dsimp only
      by_cases e : n ≤ (cmd (S 5) n p).1
      · rw [if_pos (by rw [J_le] <;> omega), if_pos e]
        refine ⟨S1, rfl, ⟨a2.1, a2.2.1, a2.2.2.1⟩, w1, fun _ => ⟨?_, w3, trivial⟩⟩
        rw [a2.2.2.2]
        rfl
      · rw [if_neg (by rw [J_le] <;> omega), if_neg e, r_O hb]
        rw [w1, w2] at ss
        have rd := s_reads (Θ := Θ) (N := N) (h := h) hb rt1 (w := -1) (p := (cmd (S 5) n p).1) (a := 59) (b := 59) (by omega) (by omega) (by omega) (by omega) (by omega) (by omega) (by omega) (by omega)
        rw [← ss, e5] at rd
        rw [rd]
        by_cases g : S 5 (cmd (S 5) n p).1 = 59
        · rw [if_pos ⟨rfl, by omega, by omega, by omega⟩, bc_some, r_I17 hb, bo_some, st_w, jn_eq, if_pos rfl, if_pos g, r_O hb]
          obtain ⟨S2, b1, b2, b3, b4⟩ := ih (d + 1) ((cmd (S 5) n p).1 + 1) S1 f rt1 (by omega) (by omega) a2.2.2.2 (by omega) (by omega) (by omega) (by omega)
          rw [e5] at b3 b4
          refine ⟨S2, b1, ⟨fun a a0 a8 => by rw [b2.1 a a0 a8]; exact a2.1 a a0 a8, fun j j1 j2 j3 => by rw [b2.2.1 j j1 j2 j3]; exact a2.2.1 j j1 j2 j3, fun j hj => by rw [b2.2.2 j (by omega)]; exact a2.2.2.1 j hj⟩, b3, fun z => ?_⟩
          obtain ⟨c1, c2⟩ := b4 z
          refine ⟨by rw [c1, List.length_cons]; omega, rcN_fr w3 cl (show d < d + 1 by omega) b2.2.2, c2⟩
        · rw [if_neg (fun z => g (by omega)), bc_some, r_I17 hb, bo_some, st_w, jn_eq, if_pos rfl, if_neg (show ¬ J (cmd (S 5) n p).1 = J (-1) by rw [J_eq] <;> omega), if_neg g]
          obtain ⟨f, rfl⟩ : ∃ n', f = n' + 1 := ⟨f - 1, by omega⟩
          dsimp only
          rw [E_R_readsAll_32, B_R_readsAll_32, r_I17 hb, bo_some, st_w, if_neg (show ¬ J (cmd (S 5) n p).1 = J (-1) by rw [J_eq] <;> omega)]
          refine ⟨_, rfl, ⟨fun a a0 a8 => by rw [st_r a0]; exact a2.1 a a0 a8, fun j j1 j2 j3 => by rw [st_o j1 j2]; exact a2.2.1 j j1 j2 j3, fun j hj => by rw [st_r (by omega)]; exact a2.2.2.1 j hj⟩, st_w, fun z => ?_⟩
          omega
/-- readsAll: the text is empty behind it -/
theorem s_readsAll (hN : 2000 ≤ N) (hb : bOK Θ 9 m h) (h10 : 0 ≤ S 0 10 ∧ S 0 10 ≤ 60) (h5 : ∀ j : Int, 0 ≤ j → j < S 0 10 → 0 ≤ S 5 j ∧ S 5 j < 128) : ∃ S' : Nat → Int → Int, P_R_readsAll Θ N (HR Θ m S h) m = some ((), HR Θ m S' h) ∧ (∀ a : Nat, a ≠ 0 → a ≠ 8 → S' a = S a) ∧ (∀ j : Int, j ≠ 10 → j ≠ 15 → j ≠ 16 → j ≠ 17 → j ≠ 18 → S' 0 j = S 0 j) ∧ S' 0 10 = 0 ∧ S' 0 17 = (ra (S 5) (S 0 10) 60 0).1 ∧ ((ra (S 5) (S 0 10) 60 0).1 = -1 → S' 0 18 = (ra (S 5) (S 0 10) 60 0).2.length ∧ rcL S' 0 (ra (S 5) (S 0 10) 60 0).2) := by
  have e0 : up2 (up2 (up2 (up2 (up2 S 0 15 (S 0 10)) 0 10 0) 0 16 0) 0 17 (-1)) 0 18 0 = st3 (up2 (up2 (up2 S 0 15 (S 0 10)) 0 10 0) 0 18 0) (-1) 0 := by
    unfold st3
    funext a j
    simp only [up2_at]
    repeat' split
    all_goals first | rfl | omega
  have rt : RT (up2 (up2 (up2 S 0 15 (S 0 10)) 0 10 0) 0 18 0) (S 0 10) := ⟨by rw [up2_nj (by omega), up2_nj (by omega), up2_eq], h10, fun j j0 j1 => by rw [up2_ne (by omega), up2_ne (by omega), up2_ne (by omega)]; exact h5 j j0 j1⟩
  have r5 : up2 (up2 (up2 S 0 15 (S 0 10)) 0 10 0) 0 18 0 5 = S 5 := by rw [up2_row (by omega), up2_row (by omega), up2_row (by omega)]
  obtain ⟨S', a1, a2, a3, a4⟩ := s_all_L (Θ := Θ) (N := N) (K := fun h19 => some ((), h19)) hN hb 60 0 0 _ N rt (by omega) (by omega) up2_eq (by omega) (by omega) (by omega) (by omega)
  rw [r5] at a3 a4
  refine ⟨S', ?_, fun a a0 a8 => by rw [a2.1 a a0 a8, up2_row a0, up2_row a0, up2_row a0], fun j j1 j2 j3 j4 j5 => by rw [a2.2.1 j j3 j4 j5, up2_nj (by omega), up2_nj (by omega), up2_nj (by omega)], by rw [a2.2.1 10 (by omega) (by omega) (by omega), up2_nj (by omega), up2_eq], a3, fun z => ?_⟩
  · unfold P_R_readsAll
    rw [r_I10 hb, bo_some, r_W15 hb, bo_some, r_W10 hb, bo_some, r_W16 hb, bo_some, r_W17 hb, bo_some, r_W18 hb, bo_some, e0, r_O hb]
    exact a1
  · obtain ⟨c1, c2⟩ := a4 z
    exact ⟨by rw [c1]; omega, c2⟩
end RT1
