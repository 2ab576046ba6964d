/-! the start: a dock, what is remembered -/
section IU
variable {Θ : mW} {N : Nat} {g l : mH} {e : mE} {ci j k t n : Nat} {fs : List Value} {v : Value}
theorem l_alx {ρ : Type} {b : Nat} {x : Int32} {E : Nat → mE} {F : Nat → mH → Option ρ} (n : Nat) (hx : ¬ x < 0 ∧ x.toNatClampNeg = n ∧ n * b ≤ 536870912) : ala Θ (g ++ l) b x E F = F (mwB Θ + g.length + l.length) (g ++ (l ++ [E n])) := by
  unfold ala
  rw [hx.2.1, if_pos ⟨hx.1, hx.2.2⟩, l_al]
theorem l_wF0 (hk : l[0]? = some (oB ci fs)) (hj : j < fs.length) : wF Θ (g ++ l) ci (mwB Θ + g.length) j v = some (g ++ l.set 0 (oB ci (fs.set j v))) := l_wF (k := 0) hk hj
theorem l_rA0 {w : Nat} (hk : l[0]? = some (oB ci fs)) (hj : fs[j]? = some (.ref w)) : rA Θ (g ++ l) ci (mwB Θ + g.length) j = some w := l_rA (k := 0) hk hj
def dL (q : Nat) : mH := [oB 1 [.ref (q + 1), .ref (q + 11), .int (J 100), .int (J 1), .int (J 0), .int (J 3), .int (J 0), .int (J 0)], oB 2 [.ref (q + 2), .int (J 0), .int (J 0)], aQ 5 8 (fup (q + 3) 1 8), shp, shp, shp, shp, shp, shp, shp, shp, oB 4 [.ref (q + 12), .int (J 0)], aI 0 20 (fun _ => 0)]
theorem i_D (hN : 2000 ≤ N) : P_D_init Θ N (g ++ [oB 1 [.null, .null, .int 0, .int 0, .int 0, .int 0, .int 0, .int 0]]) (mwB Θ + g.length) = some ((), g ++ dL (mwB Θ + g.length)) := by
  have sh := i_ships (Θ := Θ) (N := N) (g := g) (a := oB 1 [.null, .null, .int 0, .int 0, .int 0, .int 0, .int 0, .int 0]) (K := fun h14 => some ((), h14)) 8 0 N (by omega) (by omega)
  unfold P_D_init
  rw [l_al]
  unfold P_L_init
  rw [l_alx 8 (by decide)]
  rw [show mwB Θ + g.length + [oB 1 [.null, .null, .int 0, .int 0, .int 0, .int 0, .int 0, .int 0]].length = mwB Θ + g.length + 1 from rfl]
  rw [l_wF (fs := [.null, .int 0, .int 0]) rfl (by simp), bo_some, l_wF (fs := [.ref (mwB Θ + g.length + 2), .int 0, .int 0]) rfl (by simp), bo_some, l_wF (fs := [.ref (mwB Θ + g.length + 2), .int (J 0), .int 0]) rfl (by simp), bo_some]
  have e0 : ∀ X : mH, X = flL (mwB Θ + g.length) (oB 1 [.null, .null, .int 0, .int 0, .int 0, .int 0, .int 0, .int 0]) 0 → P_L_init_25 Θ N (fun h14 => some ((), h14)) (mwB Θ + g.length + 1) N (g ++ X) (J 0) = some ((), g ++ flL (mwB Θ + g.length) (oB 1 [.null, .null, .int 0, .int 0, .int 0, .int 0, .int 0, .int 0]) 8) := fun X hX => by
    rw [hX]
    exact sh
  rw [e0 _ (by unfold flL; rw [fup_0]; rfl), bc_some]
  rw [l_wF0 (fs := [.null, .null, .int 0, .int 0, .int 0, .int 0, .int 0, .int 0]) rfl (by simp), bo_some, l_al]
  unfold P_B_init
  rw [l_alx 20 (by decide)]
  rw [l_wF (fs := [.null, .int 0]) rfl (by simp), bo_some, l_wF (fs := [.ref (mwB Θ + g.length + 12), .int 0]) rfl (by simp), bo_some, bc_some]
  rw [l_wF0 (fs := [.ref (mwB Θ + g.length + 1), .null, .int 0, .int 0, .int 0, .int 0, .int 0, .int 0]) rfl (by simp), bo_some]
  rw [l_wF0 (fs := [.ref (mwB Θ + g.length + 1), .ref (mwB Θ + g.length + 11), .int 0, .int 0, .int 0, .int 0, .int 0, .int 0]) rfl (by simp), bo_some]
  rw [l_wF0 (fs := [.ref (mwB Θ + g.length + 1), .ref (mwB Θ + g.length + 11), .int (J 100), .int 0, .int 0, .int 0, .int 0, .int 0]) rfl (by simp), bo_some]
  rw [l_wF0 (fs := [.ref (mwB Θ + g.length + 1), .ref (mwB Θ + g.length + 11), .int (J 100), .int (J 1), .int 0, .int 0, .int 0, .int 0]) rfl (by simp), bo_some]
  rw [l_wF0 (fs := [.ref (mwB Θ + g.length + 1), .ref (mwB Θ + g.length + 11), .int (J 100), .int (J 1), .int (J 0), .int 0, .int 0, .int 0]) rfl (by simp), bo_some]
  rw [l_wF0 (fs := [.ref (mwB Θ + g.length + 1), .ref (mwB Θ + g.length + 11), .int (J 100), .int (J 1), .int (J 0), .int (J 3), .int 0, .int 0]) rfl (by simp), bo_some]
  rw [l_wF0 (fs := [.ref (mwB Θ + g.length + 1), .ref (mwB Θ + g.length + 11), .int (J 100), .int (J 1), .int (J 0), .int (J 3), .int (J 0), .int 0]) rfl (by simp), bo_some]
  rfl
def dks (q : Nat) : Nat → mH
  | 0 => []
  | j + 1 => dks q j ++ dL (q + 2 + 13 * j)
theorem dks_len {q : Nat} : ∀ j : Nat, (dks q j).length = 13 * j
  | 0 => rfl
  | j + 1 => by
    rw [dks, List.length_append, dks_len j]
    show 13 * j + 13 = _
    omega
def hiL (q : Nat) (j : Nat) : mH := [oB 5 [.ref (q + 1), .int (J 0), .int (J 0)], aQ 6 8 (fup (q + 2) 13 j)] ++ dks q j
theorem hiL_len {q j : Nat} : (hiL q j).length = 2 + 13 * j := by
  unfold hiL
  rw [List.length_append, dks_len]
  simp
theorem i_docks (hN : 2000 ≤ N) {K : mH → Option (Unit × mH)} : ∀ (r j w : Nat), j + r = 8 → r < w → P_H_init_25 Θ N K (mwB Θ + g.length) w (g ++ hiL (mwB Θ + g.length) j) (J j) = K (g ++ hiL (mwB Θ + g.length) 8) := by
  intro r
  induction r with
  | zero =>
    intro j w hj hw
    obtain ⟨w, rfl⟩ : ∃ n', w = n' + 1 := ⟨w - 1, by omega⟩
    rw [E_H_init_25, B_H_init_25, l_rA0 (fs := [.ref (mwB Θ + g.length + 1), .int (J 0), .int (J 0)]) rfl rfl, bo_some, l_aN (n := 8) (f := fup (mwB Θ + g.length + 2) 13 j) rfl (by simp), bo_some, if_pos (by rw [J_le] <;> omega), show j = 8 by omega]
  | succ r ih =>
    intro j w hj hw
    obtain ⟨w, rfl⟩ : ∃ n', w = n' + 1 := ⟨w - 1, by omega⟩
    have len := hiL_len (q := mwB Θ + g.length) (j := j)
    have d := i_D (Θ := Θ) (N := N) (g := g ++ hiL (mwB Θ + g.length) j) hN
    rw [List.append_assoc, List.length_append, ← Nat.add_assoc, len, List.append_assoc] at d
    have n0 : (hiL (mwB Θ + g.length) j ++ dL (mwB Θ + g.length + (2 + 13 * j)))[1]? = some (aQ 6 8 (fup (mwB Θ + g.length + 2) 13 j)) := by
      rw [List.getElem?_append_left (by omega)]
      rfl
    have n1 : (hiL (mwB Θ + g.length) j ++ dL (mwB Θ + g.length + (2 + 13 * j)))[2 + 13 * j]? = some (oB 1 [.ref (mwB Θ + g.length + (2 + 13 * j) + 1), .ref (mwB Θ + g.length + (2 + 13 * j) + 11), .int (J 100), .int (J 1), .int (J 0), .int (J 3), .int (J 0), .int (J 0)]) := by
      rw [List.getElem?_append_right (by omega), show 2 + 13 * j - (hiL (mwB Θ + g.length) j).length = 0 by omega]
      rfl
    have st : (hiL (mwB Θ + g.length) j ++ dL (mwB Θ + g.length + (2 + 13 * j))).set 1 (aQ 6 8 (va_up (fup (mwB Θ + g.length + 2) 13 j) j (some (mwB Θ + g.length + (2 + 13 * j))))) = hiL (mwB Θ + g.length) (j + 1) := by
      rw [show mwB Θ + g.length + (2 + 13 * j) = mwB Θ + g.length + 2 + 13 * j by omega, fup_S]
      unfold hiL
      rw [dks, ← List.append_assoc]
      rfl
    rw [E_H_init_25, B_H_init_25, l_rA0 (fs := [.ref (mwB Θ + g.length + 1), .int (J 0), .int (J 0)]) rfl rfl, bo_some, l_aN (n := 8) (f := fup (mwB Θ + g.length + 2) 13 j) rfl (by simp), bo_some, if_neg (by rw [J_le] <;> omega), bo_some, l_al, len, d, bc_some, l_aWQ (x := (j : Int)) n0 n1 (by omega) (by omega) (by decide), bo_some, Int.toNat_natCast, st, J_add, show (j : Int) + 1 = ((j + 1 : Nat) : Int) by omega]
    exact ih (j + 1) w (by omega) (by omega)
theorem i_H (hN : 2000 ≤ N) : P_H_init Θ N (g ++ [oB 5 [.null, .int 0, .int 0]]) (mwB Θ + g.length) = some ((), g ++ hiL (mwB Θ + g.length) 8) := by
  unfold P_H_init
  rw [l_alx 8 (by decide), l_wF0 (fs := [.null, .int 0, .int 0]) rfl (by simp), bo_some, l_wF0 (fs := [.ref (mwB Θ + g.length + 1), .int 0, .int 0]) rfl (by simp), bo_some, l_wF0 (fs := [.ref (mwB Θ + g.length + 1), .int (J 0), .int 0]) rfl (by simp), bo_some]
  have e0 : ∀ X : mH, X = hiL (mwB Θ + g.length) 0 → P_H_init_25 Θ N (fun h14 => some ((), h14)) (mwB Θ + g.length) N (g ++ X) (J 0) = some ((), g ++ hiL (mwB Θ + g.length) 8) := fun X hX => by
    rw [hX]
    exact i_docks hN 8 0 N (by omega) (by omega)
  exact e0 _ (by unfold hiL; rw [fup_0]; rfl)
end IU
