/-! the start: the reference, and the world then -/
def V00 : Int → Int := fun j => if j = 0 then 3 else if j = 1 then 100 else if j = 2 then 1 else 0
def S00 : Nat → Int → Int := fun a j => if a = 0 then (if j = 6 ∨ j = 7 then -1 else 0) else if a = 1 then V00 j else 0
def rL (q : Nat) : mH := [oB 9 [.ref (q + 1), .ref (q + 2), .ref (q + 3), .ref (q + 4), .int 0, .int 0, .int (J (-1)), .int (J (-1)), .int 0, .ref (q + 5), .int 0, .ref (q + 6), .int 0, .int 0, .ref (q + 7), .int 0, .int 0, .int 0, .int 0, .ref (q + 8)], aI 0 140 (fun k => J (V00 k)), aI 0 140 (fun _ => 0), aI 0 140 (fun _ => 0), aI 0 1120 (fun _ => 0), aI 0 60 (fun _ => 0), aI 0 80 (fun _ => 0), aI 1 256 (fun _ => 0), aI 0 120 (fun _ => 0)]
section IW
variable {Θ : mW} {N : Nat} {g l R : mH} {e e0 : mE} {ci j k t n : Nat} {fs : List Value} {v : Value}
theorem l_aW {f : Nat → Int32} {x : Int} {w : Int32} (hk : l[k]? = some (aI t n f)) (x0 : 0 ≤ x) (x1 : x < n) (hn : n ≤ 2000) : aW Θ (g ++ l) t (mwB Θ + g.length + k) (J x) w = some (g ++ l.set k (aI t n (upd f x.toNat w))) := by
  unfold aW
  rw [l_gt, hk]
  dsimp only
  rw [if_pos ⟨rfl, inOK x0 x1 (by omega)⟩, J_nat x0 (by omega), l_pt]
theorem upd_V : upd (upd (upd (fun _ : Nat => (0 : Int32)) (0 : Int).toNat (J 3)) (1 : Int).toNat (J 100)) (2 : Int).toNat (J 1) = fun k : Nat => J (V00 k) := by
  funext k
  unfold upd V00
  have a0 : (0 : Int).toNat = 0 := rfl
  have a1 : (1 : Int).toNat = 1 := rfl
  have a2 : (2 : Int).toNat = 2 := rfl
  rw [a0, a1, a2]
  by_cases z2 : k = 2
  · rw [if_pos z2, if_neg (show ¬ (k : Int) = 0 by omega), if_neg (show ¬ (k : Int) = 1 by omega), if_pos (show (k : Int) = 2 by omega)]
  · rw [if_neg z2]
    by_cases z1 : k = 1
    · rw [if_pos z1, if_neg (show ¬ (k : Int) = 0 by omega), if_pos (show (k : Int) = 1 by omega)]
    · rw [if_neg z1]
      by_cases z0 : k = 0
      · rw [if_pos z0, if_pos (show (k : Int) = 0 by omega)]
      · rw [if_neg z0, if_neg (show ¬ (k : Int) = 0 by omega), if_neg (show ¬ (k : Int) = 1 by omega), if_neg (show ¬ (k : Int) = 2 by omega)]
        rfl
theorem r_st {ρ : Type} {rest : mH} {b : Nat} {x : Int32} {E : Nat → mE} {K : mH → Option ρ} (n m : Nat) (hx : ¬ x < 0 ∧ x.toNatClampNeg = n ∧ n * b ≤ 536870912) (hl : rest.length + 1 = m) (hj : j < fs.length) : ala Θ (g ++ (oB ci fs :: rest)) b x E (fun q1 h2 => bo (wF Θ h2 ci (mwB Θ + g.length) j (.ref q1)) K) = K (g ++ (oB ci (fs.set j (.ref (mwB Θ + g.length + m))) :: (rest ++ [E n]))) := by
  rw [l_alx n hx, List.length_cons, hl, l_wF0 (fs := fs) rfl hj, bo_some]
  rfl
theorem r_sw {rest : mH} (hj : j < fs.length) : wF Θ (g ++ (oB ci fs :: rest)) ci (mwB Θ + g.length) j v = some (g ++ (oB ci (fs.set j v) :: rest)) := l_wF0 rfl hj
theorem r_sa {rest : mH} {w : Nat} (hj : fs[j]? = some (.ref w)) : rA Θ (g ++ (oB ci fs :: rest)) ci (mwB Θ + g.length) j = some w := l_rA0 rfl hj
theorem r_aw1 {f : Nat → Int32} {a : mE} {x : Int} {w : Int32} {rest : mH} (hk : rest[0]? = some (aI t n f)) (x0 : 0 ≤ x) (x1 : x < n) (hn : n ≤ 2000) : aW Θ (g ++ (a :: rest)) t (mwB Θ + g.length + 1) (J x) w = some (g ++ (a :: rest.set 0 (aI t n (upd f x.toNat w)))) := l_aW (k := 1) (l := a :: rest) hk x0 x1 hn
end IW
