/-! what is read of the array now: pure functions; and the reference's searches and sums -/
def fd (V : Int → Int) (k i : Int) : Int := V (8 + 9 * k + i)
def OKV (V : Int → Int) : Prop := (∀ j, -100000000 ≤ V j ∧ V j ≤ 100000000) ∧ 0 ≤ V 4 ∧ V 4 ≤ 8
theorem OKV.fd {V : Int → Int} (h : OKV V) (k i : Int) : -100000000 ≤ fd V k i ∧ fd V k i ≤ 100000000 := h.1 _
def mny (V : Int → Int) : Nat := (V 4).toNat
def fnd (V : Int → Int) (id : Int) : Nat → Int
  | 0 => -1
  | k + 1 => if fd V k 0 = id then k else fnd V id k
def cov (V : Int → Int) (p k : Int) : Prop := fd V k 4 ≠ -1 ∧ fd V k 4 ≤ p ∧ p ≤ fd V k 4 + fd V k 1 - 1
def covD (V : Int → Int) (p k : Int) : Decidable (cov V p k) := inferInstanceAs (Decidable (_ ∧ _ ∧ _))
def atm (V : Int → Int) (p : Int) : Nat → Int
  | 0 => -1
  | k + 1 => if fd V k 4 ≠ -1 ∧ fd V k 4 ≤ p ∧ p ≤ fd V k 4 + fd V k 1 - 1 then k else atm V p k
def at' (V : Int → Int) (p : Int) : Int := atm V p (mny V)
def fre (V : Int → Int) (a : Int) : Nat → Int
  | 0 => 1
  | j + 1 => if fre V a j = 1 ∧ at' V (a + j) = -1 then 1 else 0
def dct (V : Int → Int) : Nat → Int
  | 0 => 0
  | k + 1 => dct V k + (if fd V k 4 ≠ -1 then 1 else 0)
def blk (V : Int → Int) : Nat → Int
  | 0 => 0
  | p + 1 => blk V p + V (80 + p)
def bnt (V : Int → Int) (k : Int) : Nat → Int
  | 0 => 0
  | p + 1 => bnt V k p + (if at' V p = k then V (80 + p) else 0)
def smm (V : Int → Int) (i : Int) : Nat → Int
  | 0 => 0
  | k + 1 => smm V i k + fd V k i
def sea (t : Int) : Int := if t % 12 ≤ 6 then 40 + 20 * (t % 12) else 160 - 20 * (t % 12 - 6)
def lvl (V : Int → Int) (l t : Int) : Int := if V 2 = 0 then max 0 (min 200 (l + V 3)) else l + max (-20) (min 20 (sea t - l))
theorem fnd_le {V : Int → Int} {id : Int} : ∀ n : Nat, -1 ≤ fnd V id n ∧ fnd V id n < n
  | 0 => by simp [fnd]
  | k + 1 => by
    have := fnd_le (V := V) (id := id) k
    rw [fnd]
    split <;> omega
theorem atm_le {V : Int → Int} {p : Int} : ∀ n : Nat, -1 ≤ atm V p n ∧ atm V p n < n
  | 0 => by simp [atm]
  | k + 1 => by
    have := atm_le (V := V) (p := p) k
    rw [atm]
    split <;> omega
theorem fre_01 {V : Int → Int} {a : Int} : ∀ n : Nat, fre V a n = 0 ∨ fre V a n = 1
  | 0 => Or.inr rfl
  | k + 1 => by rw [fre]; split <;> omega
theorem dct_le {V : Int → Int} : ∀ n : Nat, 0 ≤ dct V n ∧ dct V n ≤ n
  | 0 => by simp [dct]
  | k + 1 => by
    have := dct_le (V := V) k
    rw [dct]
    split <;> omega
theorem it01 {c : Prop} [Decidable c] : (if c then (1 : Int) else 0) = 0 ∨ (if c then (1 : Int) else 0) = 1 := by split <;> omega
theorem J01_0 {c : Prop} [Decidable c] : (J (if c then 1 else 0) = J 0) = ¬ c := by
  by_cases h : c
  · rw [if_pos h, J_eq (by omega) (by omega) (by omega) (by omega)]; simp [h]
  · rw [if_neg h]; simp [h]
theorem J01_1 {c : Prop} [Decidable c] : (J (if c then 1 else 0) = J 1) = c := by
  by_cases h : c
  · rw [if_pos h]; simp [h]
  · rw [if_neg h, J_eq (by omega) (by omega) (by omega) (by omega)]; simp [h]
section R2
variable {Θ : mW} {N m : Nat} {S : Nat → Int → Int} {h : mH}
theorem at_le (hV : OKV (S 1)) {p : Int} : -1 ≤ at' (S 1) p ∧ at' (S 1) p < S 1 4 := by
  have hm := hV.2
  have := atm_le (V := S 1) (p := p) (mny (S 1))
  unfold at'
  unfold mny at *
  omega
theorem sea_le (t : Int) : 40 ≤ sea t ∧ sea t ≤ 160 := by
  unfold sea
  split <;> omega
end R2
