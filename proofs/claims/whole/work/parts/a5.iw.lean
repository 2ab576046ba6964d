/-! the start: the reference, and the world then -/
def V00 : Int → Int := fun j => if j = 0 then 3 else if j = 1 then 100 else if j = 2 then 1 else 0
def S00 : Nat → Int → Int := fun a j => if a = 0 then (if j = 6 ∨ j = 7 then -1 else 0) else if a = 1 then V00 j else 0
def rL (q : Nat) : mH := [oB 9 [.ref (q + 1), .ref (q + 2), .ref (q + 3), .ref (q + 4), .int 0, .int 0, .int (J (-1)), .int (J (-1)), .int 0, .ref (q + 5), .int 0, .ref (q + 6), .int 0, .int 0, .ref (q + 7), .int 0, .int 0, .int 0, .int 0, .ref (q + 8)], aI 0 140 (fun k => J (V00 k)), aI 0 140 (fun _ => 0), aI 0 140 (fun _ => 0), aI 0 1120 (fun _ => 0), aI 0 60 (fun _ => 0), aI 0 80 (fun _ => 0), aI 1 256 (fun _ => 0), aI 0 120 (fun _ => 0)]
section IW
variable {Θ : mW} {N : Nat} {g l R : mH} {e e0 : mE} {ci j k t n : Nat} {fs : List Value} {v : Value}
theorem l_aW {f : Nat → Int32} {x : Int} {w : Int32} (hk : l[k]? = some (aI t n f)) (x0 : 0 ≤ x) (x1 : x < n) (hn : n ≤ 2000) : aW Θ (g ++ l) t (mwB Θ + g.length + k) (J x) w = some (g ++ l.set k (aI t n (upd f x.toNat w))) := by
  unfold aW
  rw [l_gt, hk]
  dsimp only
  rw [if_pos ⟨rfl, inOK x0 x1 (by omega)⟩, J_nat x0 (by omega), l_pt]
theorem upd_V : upd (upd (upd (fun _ : Nat => (0 : Int32)) (0 : Int).toNat (J 3)) (1 : Int).toNat (J 100)) (2 : Int).toNat (J 1) = fun k : Nat => J (V00 k) := by
  funext k
  unfold upd V00
  have a0 : (0 : Int).toNat = 0 := rfl
  have a1 : (1 : Int).toNat = 1 := rfl
  have a2 : (2 : Int).toNat = 2 := rfl
  rw [a0, a1, a2]
  by_cases z2 : k = 2
  · rw [if_pos z2, if_neg (show ¬ (k : Int) = 0 by omega), if_neg (show ¬ (k : Int) = 1 by omega), if_pos (show (k : Int) = 2 by omega)]
  · rw [if_neg z2]
    by_cases z1 : k = 1
    · rw [if_pos z1, if_neg (show ¬ (k : Int) = 0 by omega), if_pos (show (k : Int) = 1 by omega)]
    · rw [if_neg z1]
      by_cases z0 : k = 0
      · rw [if_pos z0, if_pos (show (k : Int) = 0 by omega)]
      · rw [if_neg z0, if_neg (show ¬ (k : Int) = 0 by omega), if_neg (show ¬ (k : Int) = 1 by omega), if_neg (show ¬ (k : Int) = 2 by omega)]
        rfl
theorem i_R : P_R_init Θ N (g ++ [oB 9 [.null, .null, .null, .null, .int 0, .int 0, .int 0, .int 0, .int 0, .null, .int 0, .null, .int 0, .int 0, .null, .int 0, .int 0, .int 0, .int 0, .null]]) (mwB Θ + g.length) = some ((), g ++ rL (mwB Θ + g.length)) := by
  generalize hq : mwB Θ + g.length = q
  have w0 : ∀ {l : mH} {fs : List Value} {j : Nat} {v : Value}, l[0]? = some (oB 9 fs) → j < fs.length → wF Θ (g ++ l) 9 q j v = some (g ++ l.set 0 (oB 9 (fs.set j v))) := fun a b => by
    rw [← hq]
    exact l_wF0 a b
  have al : ∀ {ρ : Type} {b : Nat} {x : Int32} {E : Nat → mE} {F : Nat → mH → Option ρ} {l : mH} (n : Nat), (¬ x < 0 ∧ x.toNatClampNeg = n ∧ n * b ≤ 536870912) → ala Θ (g ++ l) b x E F = F (q + l.length) (g ++ (l ++ [E n])) := fun n h => by
    rw [← hq]
    exact l_alx n h
  have r0 : ∀ {l : mH} {fs : List Value} {j w : Nat}, l[0]? = some (oB 9 fs) → fs[j]? = some (.ref w) → rA Θ (g ++ l) 9 q j = some w := fun a b => by
    rw [← hq]
    exact l_rA0 a b
  have aw : ∀ {l : mH} {f : Nat → Int32} {x : Int} {w : Int32} {n : Nat}, l[1]? = some (aI 0 n f) → 0 ≤ x → x < n → n ≤ 2000 → aW Θ (g ++ l) 0 (q + 1) (J x) w = some (g ++ l.set 1 (aI 0 n (upd f x.toNat w))) := fun a b c d => by
    rw [← hq]
    exact l_aW a b c d
  unfold P_R_init
  rw [al 140 (by decide), w0 (fs := [.null, .null, .null, .null, .int 0, .int 0, .int 0, .int 0, .int 0, .null, .int 0, .null, .int 0, .int 0, .null, .int 0, .int 0, .int 0, .int 0, .null]) rfl (by simp), bo_some]
  rw [al 140 (by decide), w0 (fs := [.ref (q + 1), .null, .null, .null, .int 0, .int 0, .int 0, .int 0, .int 0, .null, .int 0, .null, .int 0, .int 0, .null, .int 0, .int 0, .int 0, .int 0, .null]) rfl (by simp), bo_some]
  rw [al 140 (by decide), w0 (fs := [.ref (q + 1), .ref (q + 2), .null, .null, .int 0, .int 0, .int 0, .int 0, .int 0, .null, .int 0, .null, .int 0, .int 0, .null, .int 0, .int 0, .int 0, .int 0, .null]) rfl (by simp), bo_some]
  rw [al 1120 (by decide), w0 (fs := [.ref (q + 1), .ref (q + 2), .ref (q + 3), .null, .int 0, .int 0, .int 0, .int 0, .int 0, .null, .int 0, .null, .int 0, .int 0, .null, .int 0, .int 0, .int 0, .int 0, .null]) rfl (by simp), bo_some]
  rw [w0 (fs := [.ref (q + 1), .ref (q + 2), .ref (q + 3), .ref (q + 4), .int 0, .int 0, .int 0, .int 0, .int 0, .null, .int 0, .null, .int 0, .int 0, .null, .int 0, .int 0, .int 0, .int 0, .null]) rfl (by simp), bo_some]
  rw [w0 (fs := [.ref (q + 1), .ref (q + 2), .ref (q + 3), .ref (q + 4), .int 0, .int 0, .int (J (-1)), .int 0, .int 0, .null, .int 0, .null, .int 0, .int 0, .null, .int 0, .int 0, .int 0, .int 0, .null]) rfl (by simp), bo_some]
  rw [al 60 (by decide), w0 (fs := [.ref (q + 1), .ref (q + 2), .ref (q + 3), .ref (q + 4), .int 0, .int 0, .int (J (-1)), .int (J (-1)), .int 0, .null, .int 0, .null, .int 0, .int 0, .null, .int 0, .int 0, .int 0, .int 0, .null]) rfl (by simp), bo_some]
  rw [al 80 (by decide), w0 (fs := [.ref (q + 1), .ref (q + 2), .ref (q + 3), .ref (q + 4), .int 0, .int 0, .int (J (-1)), .int (J (-1)), .int 0, .ref (q + 5), .int 0, .null, .int 0, .int 0, .null, .int 0, .int 0, .int 0, .int 0, .null]) rfl (by simp), bo_some]
  rw [al 256 (by decide), w0 (fs := [.ref (q + 1), .ref (q + 2), .ref (q + 3), .ref (q + 4), .int 0, .int 0, .int (J (-1)), .int (J (-1)), .int 0, .ref (q + 5), .int 0, .ref (q + 6), .int 0, .int 0, .null, .int 0, .int 0, .int 0, .int 0, .null]) rfl (by simp), bo_some]
  rw [al 120 (by decide), w0 (fs := [.ref (q + 1), .ref (q + 2), .ref (q + 3), .ref (q + 4), .int 0, .int 0, .int (J (-1)), .int (J (-1)), .int 0, .ref (q + 5), .int 0, .ref (q + 6), .int 0, .int 0, .ref (q + 7), .int 0, .int 0, .int 0, .int 0, .null]) rfl (by simp), bo_some]
  rw [r0 (w := q + 1) (fs := [.ref (q + 1), .ref (q + 2), .ref (q + 3), .ref (q + 4), .int 0, .int 0, .int (J (-1)), .int (J (-1)), .int 0, .ref (q + 5), .int 0, .ref (q + 6), .int 0, .int 0, .ref (q + 7), .int 0, .int 0, .int 0, .int 0, .ref (q + 8)]) rfl rfl, bo_some, aw (x := 0) (n := 140) (f := fun _ => 0) rfl (by omega) (by omega) (by omega), bo_some]
  rw [r0 (w := q + 1) (fs := [.ref (q + 1), .ref (q + 2), .ref (q + 3), .ref (q + 4), .int 0, .int 0, .int (J (-1)), .int (J (-1)), .int 0, .ref (q + 5), .int 0, .ref (q + 6), .int 0, .int 0, .ref (q + 7), .int 0, .int 0, .int 0, .int 0, .ref (q + 8)]) rfl rfl, bo_some, aw (x := 1) (n := 140) rfl (by omega) (by omega) (by omega), bo_some]
  rw [r0 (w := q + 1) (fs := [.ref (q + 1), .ref (q + 2), .ref (q + 3), .ref (q + 4), .int 0, .int 0, .int (J (-1)), .int (J (-1)), .int 0, .ref (q + 5), .int 0, .ref (q + 6), .int 0, .int 0, .ref (q + 7), .int 0, .int 0, .int 0, .int 0, .ref (q + 8)]) rfl rfl, bo_some, aw (x := 2) (n := 140) rfl (by omega) (by omega) (by omega), bo_some, upd_V]
  rfl
end IW
