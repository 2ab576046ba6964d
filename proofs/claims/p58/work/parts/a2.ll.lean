/-! the law's loop -/
section LL
variable {Θ : mW} {N f : Nat}
end LL
/-! the start: heaps as lists -/
section IT
variable {Θ : mW} {N : Nat} {g l : mH} {e : mE} {ci j k t n : Nat} {fs : List Value} {v : Value}
theorem l_gt : gt Θ (g ++ l) (mwB Θ + g.length + k) = l[k]? := by
  unfold gt
  rw [if_pos (by omega), show mwB Θ + g.length + k - mwB Θ = g.length + k by omega, List.getElem?_append_right (by omega), show g.length + k - g.length = k by omega]
theorem l_pt : pt Θ (g ++ l) (mwB Θ + g.length + k) e = g ++ l.set k e := by
  unfold pt
  rw [show mwB Θ + g.length + k - mwB Θ = g.length + k by omega, List.set_append_right _ _ (by omega), show g.length + k - g.length = k by omega]
theorem l_al {ρ : Type} {F : Nat → mH → Option ρ} : al Θ (g ++ l) e F = F (mwB Θ + g.length + l.length) (g ++ (l ++ [e])) := by
  unfold al
  rw [List.length_append, Nat.add_assoc, List.append_assoc]
theorem l_ala {ρ : Type} {b : Nat} {E : Nat → mE} {F : Nat → mH → Option ρ} (hn : n ≤ 2000) (hb : b ≤ 8) : ala Θ (g ++ l) b (J n) E F = F (mwB Θ + g.length + l.length) (g ++ (l ++ [E n])) := by
  unfold ala
  have e : (J (n : Int)).toNatClampNeg = n := by rw [J_nat (by omega) (by omega)]; omega
  rw [e, if_pos ⟨by rw [J_lt0 (by omega) (by omega)]; omega, Nat.le_trans (Nat.mul_le_mul hn hb) (by decide)⟩, l_al]
theorem l_wF (hk : l[k]? = some (oB ci fs)) (hj : j < fs.length) : wF Θ (g ++ l) ci (mwB Θ + g.length + k) j v = some (g ++ l.set k (oB ci (fs.set j v))) := by
  unfold wF
  rw [l_gt, hk]
  dsimp only
  rw [if_pos ⟨rfl, hj⟩, l_pt]
theorem l_rA {w : Nat} (hk : l[k]? = some (oB ci fs)) (hj : fs[j]? = some (.ref w)) : rA Θ (g ++ l) ci (mwB Θ + g.length + k) j = some w := by
  unfold rA rV
  rw [l_gt, hk]
  dsimp only
  rw [if_pos rfl, hj]
theorem l_aN {f : Nat → Option Nat} (hk : l[k]? = some (aQ t n f)) (ht : t < 7) : aN Θ (g ++ l) (mwB Θ + g.length + k) = some (J n) := by
  unfold aN
  rw [l_gt, hk]
  dsimp only
  rw [if_pos ht, J_ofNat]
theorem l_aWQ {f : Nat → Option Nat} {kv c : Nat} {x : Int} {gs : List Value} (hk : l[k]? = some (aQ t n f)) (hv : l[kv]? = some (oB c gs)) (x0 : 0 ≤ x) (x1 : x < n) (hn : n ≤ 1000) : aWQ Θ (g ++ l) t c (mwB Θ + g.length + k) (J x) (mwB Θ + g.length + kv) = some (g ++ l.set k (aQ t n (va_up f x.toNat (some (mwB Θ + g.length + kv))))) := by
  unfold aWQ
  rw [l_gt, l_gt, hk, hv]
  dsimp only
  rw [if_pos ⟨⟨rfl, rfl⟩, inOK x0 x1 (by omega)⟩, J_nat x0 (by omega), l_pt]
def shp : mE := oB 3 [.int 0, .int 0, .int 0, .int 0, .int 0, .int 0, .int 0, .int (J (-1)), .int 0]
def fup (b d j : Nat) : Nat → Option Nat := fun k => if k < j then some (b + d * k) else none
theorem fup_S {b d j : Nat} : va_up (fup b d j) j (some (b + d * j)) = fup b d (j + 1) := by
  funext k
  unfold va_up fup
  by_cases z : k = j
  · rw [if_pos z, if_pos (by omega), z]
  · rw [if_neg z]
    by_cases y : k < j
    · rw [if_pos y, if_pos (by omega)]
    · rw [if_neg y, if_neg (by omega)]
theorem fup_0 {b d : Nat} : fup b d 0 = fun _ => none := by
  funext k
  unfold fup
  rw [if_neg (by omega)]
/-- a fleet's cells while ships are made: the dock's own, the fleet, its row, j ships -/
def flL (q : Nat) (a : mE) (j : Nat) : mH := [a, oB 2 [.ref (q + 2), .int (J 0), .int (J 0)], aQ 5 8 (fup (q + 3) 1 j)] ++ List.replicate j shp
theorem flL_len {q : Nat} {a : mE} {j : Nat} : (flL q a j).length = 3 + j := by unfold flL; simp; omega
theorem i_ships {a : mE} {K : mH → Option (Unit × mH)} : ∀ (r j w : Nat), j + r = 8 → r < w → P_L_init_25 Θ N K (mwB Θ + g.length + 1) w (g ++ flL (mwB Θ + g.length) a j) (J j) = K (g ++ flL (mwB Θ + g.length) a 8) := by
  intro r
  induction r with
  | zero =>
    intro j w hj hw
    obtain ⟨w, rfl⟩ : ∃ n', w = n' + 1 := ⟨w - 1, by omega⟩
    rw [E_L_init_25, B_L_init_25, l_rA (fs := [.ref (mwB Θ + g.length + 2), .int (J 0), .int (J 0)]) rfl rfl, bo_some, l_aN (n := 8) (f := fup (mwB Θ + g.length + 3) 1 j) rfl (by decide), bo_some, if_pos (by rw [J_le] <;> omega), show j = 8 by omega]
  | succ r ih =>
    intro j w hj hw
    obtain ⟨w, rfl⟩ : ∃ n', w = n' + 1 := ⟨w - 1, by omega⟩
    have len := flL_len (q := mwB Θ + g.length) (a := a) (j := j)
    have st : (((flL (mwB Θ + g.length) a j ++ [oB 3 [.int 0, .int 0, .int 0, .int 0, .int 0, .int 0, .int 0, .int 0, .int 0]]).set (3 + j) shp).set 2 (aQ 5 8 (va_up (fup (mwB Θ + g.length + 3) 1 j) j (some (mwB Θ + g.length + (3 + j)))))) = flL (mwB Θ + g.length) a (j + 1) := by
      rw [show mwB Θ + g.length + (3 + j) = mwB Θ + g.length + 3 + 1 * j by omega, fup_S, List.set_append_right _ _ (by omega), show 3 + j - (flL (mwB Θ + g.length) a j).length = 0 by omega]
      unfold flL
      rw [List.replicate_succ']
      rfl
    have n3 : (flL (mwB Θ + g.length) a j ++ [oB 3 [.int 0, .int 0, .int 0, .int 0, .int 0, .int 0, .int 0, .int 0, .int 0]])[3 + j]? = some (oB 3 [.int 0, .int 0, .int 0, .int 0, .int 0, .int 0, .int 0, .int 0, .int 0]) := by
      rw [List.getElem?_append_right (by omega), show 3 + j - (flL (mwB Θ + g.length) a j).length = 0 by omega]
      rfl
    have n3' : ((flL (mwB Θ + g.length) a j ++ [oB 3 [.int 0, .int 0, .int 0, .int 0, .int 0, .int 0, .int 0, .int 0, .int 0]]).set (3 + j) shp)[3 + j]? = some shp := by
      rw [List.getElem?_set_self (by rw [List.length_append, len]; simp)]
    have n2' : ((flL (mwB Θ + g.length) a j ++ [oB 3 [.int 0, .int 0, .int 0, .int 0, .int 0, .int 0, .int 0, .int 0, .int 0]]).set (3 + j) shp)[2]? = some (aQ 5 8 (fup (mwB Θ + g.length + 3) 1 j)) := by
      rw [List.getElem?_set_ne (by omega)]
      rfl
    rw [E_L_init_25, B_L_init_25, l_rA (fs := [.ref (mwB Θ + g.length + 2), .int (J 0), .int (J 0)]) rfl rfl, bo_some, l_aN (n := 8) (f := fup (mwB Θ + g.length + 3) 1 j) rfl (by decide), bo_some, if_neg (by rw [J_le] <;> omega), bo_some, l_al, len]
    unfold P_S_init
    rw [l_wF n3 (by decide), bo_some, bc_some]
    rw [show (oB 3 (([.int 0, .int 0, .int 0, .int 0, .int 0, .int 0, .int 0, .int 0, .int 0] : List Value).set 7 (.int (J (-1))))) = shp from rfl, l_aWQ (x := (j : Int)) n2' n3' (by omega) (by omega) (by decide), bo_some, Int.toNat_natCast, st, J_add, show (j : Int) + 1 = ((j + 1 : Nat) : Int) by omega]
    exact ih (j + 1) w (by omega) (by omega)
end IT
