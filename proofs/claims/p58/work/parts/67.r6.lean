/-! what is asked of the reference -/
section R6
variable {Θ : mW} {N m : Nat} {S : Nat → Int → Int} {h : mH}
/-! gaps -/
/-- the first place from a on, among n, where l metres are free; -1 if none -/
def gpf (V : Int → Int) (l : Int) : Nat → Int → Int
  | 0, _ => -1
  | n + 1, a => if 60 < a + l then -1 else if fre V a l.toNat = 1 then a else gpf V l n (a + 1)
def frm (V : Int → Int) : Nat → Int
  | 0 => 0
  | p + 1 => frm V p + (if at' V p = -1 then 1 else 0)
/-! ranks -/
def bef (V : Int → Int) (b a : Int) : Prop := 0 < fd V b 8 - fd V a 8 ∨ (fd V b 8 - fd V a 8 = 0 ∧ (0 < fd V b 3 - fd V a 3 ∨ (fd V b 3 - fd V a 3 = 0 ∧ b < a)))
def ahd (V : Int → Int) (a : Int) : Nat → Int
  | 0 => 0
  | b + 1 => ahd V a b + (if 0 < fd V b 8 - fd V a 8 ∨ (fd V b 8 - fd V a 8 = 0 ∧ (0 < fd V b 3 - fd V a 3 ∨ (fd V b 3 - fd V a 3 = 0 ∧ (b : Int) < a))) then 1 else 0)
theorem ahd_le {V : Int → Int} {a : Int} : ∀ n : Nat, 0 ≤ ahd V a n ∧ ahd V a n ≤ n
  | 0 => by simp [ahd]
  | k + 1 => by
    have := ahd_le (V := V) (a := a) k
    rw [ahd]
    split <;> omega
def rkf (V : Int → Int) (r : Int) : Nat → Int
  | 0 => -1
  | a + 1 => if ahd V a (mny V) = r then fd V a 0 else rkf V r a
theorem rkf_le (hV : OKV (S 1)) {k : Int} : ∀ n : Nat, -100000000 ≤ rkf (S 1) k n ∧ rkf (S 1) k n ≤ 100000000
  | 0 => by simp [rkf]
  | a + 1 => by
    have := rkf_le hV (k := k) a
    have := hV.fd a 0
    rw [rkf]
    split <;> omega
/-! levels ahead -/
def lva (V : Int → Int) : Nat → Int
  | 0 => V 1
  | k + 1 => lvl V (lva V k) (V 0 + (k + 1))
theorem lvl_rng {V : Int → Int} {l t : Int} (h1 : 0 ≤ l) (h2 : l ≤ 200) : 0 ≤ lvl V l t ∧ lvl V l t ≤ 200 := by
  unfold lvl
  have := sea_le t
  split <;> omega
theorem lva_rng {V : Int → Int} (h1 : 0 ≤ V 1) (h2 : V 1 ≤ 200) : ∀ k, 0 ≤ lva V k ∧ lva V k ≤ 200
  | 0 => ⟨h1, h2⟩
  | k + 1 => by
    have := lva_rng h1 h2 k
    exact lvl_rng this.1 this.2
def hgo (V : Int → Int) (w : Int) : Nat → Nat → Int
  | 0, _ => -1
  | r + 1, k => if fd V w 2 ≤ lva V k then k else hgo V w r (k + 1)
/-! floating point -/
end R6
