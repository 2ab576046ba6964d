/-! the start: the other parts -/
section IV9
variable {Θ : mW} {N : Nat} {g l R : mH} {e e0 : mE} {ci j k t n : Nat} {fs : List Value} {v : Value}
def gL (q : Nat) : mH := [oB 6 [.ref (q + 1), .int (J 0), .ref (q + 2), .int (J 0), .ref (q + 3), .ref (q + 4)], aI 0 9 (fun _ => 0), aI 0 8 (fun _ => 0), aI 0 256 (fun _ => 0), aI 1 256 (fun _ => 0)]
theorem i_G : P_G_init Θ N (g ++ [oB 6 [.null, .int 0, .null, .int 0, .null, .null]]) (mwB Θ + g.length) = some ((), g ++ gL (mwB Θ + g.length)) := by
  unfold P_G_init
  rw [l_alx 9 (by decide), l_wF0 (fs := [.null, .int 0, .null, .int 0, .null, .null]) rfl (by simp), bo_some, l_wF0 (fs := [.ref (mwB Θ + g.length + 1), .int 0, .null, .int 0, .null, .null]) rfl (by simp), bo_some, l_alx 8 (by decide), l_wF0 (fs := [.ref (mwB Θ + g.length + 1), .int (J 0), .null, .int 0, .null, .null]) rfl (by simp), bo_some, l_wF0 (fs := [.ref (mwB Θ + g.length + 1), .int (J 0), .ref (mwB Θ + g.length + 2), .int 0, .null, .null]) rfl (by simp), bo_some, l_alx 256 (by decide), l_wF0 (fs := [.ref (mwB Θ + g.length + 1), .int (J 0), .ref (mwB Θ + g.length + 2), .int (J 0), .null, .null]) rfl (by simp), bo_some, l_alx 256 (by decide), l_wF0 (fs := [.ref (mwB Θ + g.length + 1), .int (J 0), .ref (mwB Θ + g.length + 2), .int (J 0), .ref (mwB Θ + g.length + 3), .null]) rfl (by simp), bo_some]
  rfl
def sL (q : Nat) : mH := [oB 8 [.ref (q + 1), .int (J 0), .int 0, .int 0], aI 4 16 (fun _ => 0)]
theorem i_S : P_SB_init Θ N (g ++ [oB 8 [.null, .int 0, .int 0, .int 0]]) (mwB Θ + g.length) = some ((), g ++ sL (mwB Θ + g.length)) := by
  unfold P_SB_init P_AB_init
  rw [if_neg (show ¬ (1 : Int32) = 0 by decide), l_alx 16 (by decide), l_wF0 (fs := [.null, .int 0, .int 0, .int 0]) rfl (by simp), bo_some, if_pos ⟨by decide, fits_by (by omega) (by omega)⟩, l_wF0 (fs := [.ref (mwB Θ + g.length + 1), .int 0, .int 0, .int 0]) rfl (by simp), bo_some, bc_some]
  rfl
def tL (Θ : mW) (q : Nat) : mH := [oB 7 [.ref (q + 1), .int (J 0), .int (J 0), .int (J 0), .ref (mwad Θ 5), .ref (q + 3), .int (J 0)], oB 8 [.ref (q + 2), .int (J 0), .int 0, .int 0], aI 4 16 (fun _ => 0), aI 0 3 (fun _ => 0)]
theorem i_T : P_T_init Θ N (g ++ [oB 7 [.null, .int 0, .int 0, .int 0, .null, .null, .int 0]]) (mwB Θ + g.length) = some ((), g ++ tL Θ (mwB Θ + g.length)) := by
  have s := i_S (Θ := Θ) (N := N) (g := g ++ [oB 7 [.null, .int 0, .int 0, .int 0, .null, .null, .int 0]])
  rw [List.append_assoc, List.append_assoc, List.length_append, ← Nat.add_assoc] at s
  unfold P_T_init
  rw [l_al, s, bc_some, l_wF0 (fs := [.null, .int 0, .int 0, .int 0, .null, .null, .int 0]) rfl (by simp), bo_some, l_wF0 (fs := [.ref (mwB Θ + g.length + 1), .int 0, .int 0, .int 0, .null, .null, .int 0]) rfl (by simp), bo_some, l_wF0 (fs := [.ref (mwB Θ + g.length + 1), .int (J 0), .int 0, .int 0, .null, .null, .int 0]) rfl (by simp), bo_some, l_wF0 (fs := [.ref (mwB Θ + g.length + 1), .int (J 0), .int (J 0), .int 0, .null, .null, .int 0]) rfl (by simp), bo_some, l_wF0 (fs := [.ref (mwB Θ + g.length + 1), .int (J 0), .int (J 0), .int (J 0), .null, .null, .int 0]) rfl (by simp), bo_some, l_alx 3 (by decide), l_wF0 (fs := [.ref (mwB Θ + g.length + 1), .int (J 0), .int (J 0), .int (J 0), .ref (mwad Θ 5), .null, .int 0]) rfl (by simp), bo_some, l_wF0 (fs := [.ref (mwB Θ + g.length + 1), .int (J 0), .int (J 0), .int (J 0), .ref (mwad Θ 5), .ref (mwB Θ + g.length + 3), .int 0]) rfl (by simp), bo_some]
  rfl
theorem f_wF (hj : j < fs.length) : wF Θ (oB ci fs :: R) ci (mwB Θ) j v = some (oB ci (fs.set j v) :: R) := l_wF0 (g := []) (l := oB ci fs :: R) rfl hj
/-- a part of the face is made -/
theorem f_st {px : mH → Nat → Option (Unit × mH)} {xL : Nat → mH} {K : mH → Option (Unit × mH)} (hp : ∀ g : mH, px (g ++ [e0]) (mwB Θ + g.length) = some ((), g ++ xL (mwB Θ + g.length))) (n : Nat) (hl : R.length + 1 = n) (hj : j < fs.length) : al Θ (oB 0 fs :: R) e0 (fun q h2 => bc (px h2 q) (fun _ h3 => bo (wF Θ h3 0 (mwB Θ) j (.ref q)) K)) = K (oB 0 (fs.set j (.ref (mwB Θ + n))) :: (R ++ xL (mwB Θ + n))) := by
  have p := hp (oB 0 fs :: R)
  rw [List.length_cons, hl] at p
  unfold al
  rw [List.length_cons, hl]
  dsimp only
  rw [p, bc_some]
  exact (congrArg (fun q => bo q K) (f_wF (R := R ++ xL (mwB Θ + n)) hj)).trans rfl
def R1 (f : Nat) : mH := [] ++ dL (f + 1)
def R2 (f : Nat) : mH := R1 f ++ dL (f + 14)
def R3 (f : Nat) : mH := R2 f ++ hiL (f + 27) 8
def R4 (f : Nat) : mH := R3 f ++ dL (f + 133)
def R5 (f : Nat) : mH := R4 f ++ gL (f + 146)
def R6 (Θ : mW) (f : Nat) : mH := R5 f ++ tL Θ (f + 151)
def R7 (Θ : mW) (f : Nat) : mH := R6 Θ f ++ sL (f + 155)
def fcL (Θ : mW) (f : Nat) : mH := oB 0 [.ref (f + 1), .ref (f + 14), .ref (f + 27), .ref (f + 133), .int (J 0), .ref (f + 146), .ref (f + 151), .ref (f + 155), .int (J (-1)), .int (J (-1)), .int (J (-1))] :: R7 Θ f
theorem i_F (hN : 2000 ≤ N) : P_F_init Θ N [oB 0 [.null, .null, .null, .null, .int 0, .null, .null, .null, .int 0, .int 0, .int 0]] (mwB Θ) = some ((), fcL Θ (mwB Θ)) := by
  unfold P_F_init
  rw [f_st (px := fun h q => P_D_init Θ N h q) (xL := dL) (fun g => i_D hN) 1 rfl (by simp)]
  rw [f_st (px := fun h q => P_D_init Θ N h q) (xL := dL) (fun g => i_D hN) 14 rfl (by simp)]
  rw [f_st (px := fun h q => P_H_init Θ N h q) (xL := fun q => hiL q 8) (fun g => i_H hN) 27 rfl (by simp)]
  rw [f_st (px := fun h q => P_D_init Θ N h q) (xL := dL) (fun g => i_D hN) 133 rfl (by simp)]
  rw [f_wF (by simp), bo_some]
  rw [f_st (px := fun h q => P_G_init Θ N h q) (xL := gL) (fun g => i_G) 146 rfl (by simp)]
  rw [f_st (px := fun h q => P_T_init Θ N h q) (xL := tL Θ) (fun g => i_T) 151 rfl (by simp)]
  rw [f_st (px := fun h q => P_SB_init Θ N h q) (xL := sL) (fun g => i_S) 155 rfl (by simp)]
  rw [f_wF (by simp), bo_some, f_wF (by simp), bo_some, f_wF (by simp), bo_some]
  rfl
end IV9
