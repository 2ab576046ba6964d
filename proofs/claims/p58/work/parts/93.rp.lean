/-! the reference's packing -/
def wR (V : Int → Int) (k : Int) : Int := if k < V 4 ∧ fd V k 4 = -1 ∧ fd V k 2 ≤ V 1 - 2 then fd V k 1 else 61
section R8
variable {Θ : mW} {N m : Nat} {S : Nat → Int → Int} {V : Int → Int} {h : mH} {G H M : Int}
theorem wR_rng (I : Inv G H M V) {k : Int} (h1 : 0 ≤ k) : 0 ≤ wR V k ∧ wR V k ≤ 61 := by
  unfold wR
  split
  · rename_i c
    have sh := I.sh k h1 c.1
    unfold shOK at sh
    omega
  · omega
theorem wR_list (I : Inv G H M V) : ∀ n : Nat, (wl (wR V) n 0).filter (fun w => decide (w ≤ 60)) = wlist V (min n (mny V))
  | 0 => by
    rw [show min 0 (mny V) = 0 by omega]
    rfl
  | n + 1 => by
    have h4 := I.h4
    rw [wl_snoc, List.filter_append, wR_list I n, show (0 : Int) + n = n by omega]
    by_cases c : n < mny V
    · have sh := I.sh n (by omega) (by unfold mny at c; omega)
      unfold shOK at sh
      rw [show min (n + 1) (mny V) = min n (mny V) + 1 by omega, show min n (mny V) = n by omega, wlist]
      unfold wR
      have hn : (n : Int) < V 4 := by unfold mny at c; omega
      by_cases d : fd V n 4 = -1 ∧ fd V n 2 + 2 ≤ V 1
      · rw [if_pos ⟨hn, d.1, by omega⟩, if_pos d]
        have : decide (fd V n 1 ≤ 60) = true := by rw [decide_eq_true_eq]; omega
        simp [this]
      · rw [if_neg (fun x => d ⟨x.2.1, by omega⟩), if_neg d]
        simp
    · rw [show min (n + 1) (mny V) = min n (mny V) by omega]
      unfold wR
      rw [if_neg (fun x => c (by unfold mny; omega))]
      simp
theorem wR_wlist (I : Inv G H M V) : (wl (wR V) 8 0).filter (fun w => decide (w ≤ 60)) = wlist V (mny V) := by
  have h4 := I.h4
  rw [wR_list I 8, show min 8 (mny V) = mny V by unfold mny; omega]
theorem rup2_self {i : Nat} {k : Int} : up2 S i k (S i k) = S := by
  funext a j
  rw [up2_at]
  split
  · rename_i c; rw [c.1, c.2]
  · rfl
def mval (V : Int → Int) (f : Int) : Int → Int := if f = 0 then cntf 8 else mtf (wR V) 8
theorem mval_0 {s : Nat} : mval V 0 s = MT one1 (tb s) 8 := by
  unfold mval
  rw [if_pos rfl]
  unfold cntf
  rw [Int.toNat_natCast]
theorem mval_1 {s : Nat} : mval V 1 s = MT (wR V) (tb s) 8 := by
  unfold mval
  rw [if_neg (by omega)]
  unfold mtf
  rw [Int.toNat_natCast]
end R8
