/-! the line of a bill -/
def pc1 (p : Int × (Int → Int)) (a : Int) : Int × (Int → Int) := (p.1 + 1, up1 p.2 p.1 a)
def pI1 (p : Int × (Int → Int)) (x : Int) : Int × (Int → Int) := (p.1 + nd x, wdg p.2 p.1 x)
def bt1 (V : Int → Int) (w id : Int) (β : Int → Int) : Int × (Int → Int) := pI1 (pc1 (pI1 (pc1 (pI1 (pc1 (0, β) 35) id) 58) (fd V w 8)) 47) (fd V w 3)
def bt2 (V : Int → Int) (w : Int) (p : Int × (Int → Int)) : Int × (Int → Int) := if fd V w 6 = 0 then p else pI1 (pc1 p 33) (fd V w 6)
def bt3 (V : Int → Int) (w : Int) (p : Int × (Int → Int)) : Int × (Int → Int) := if fd V w 4 = -1 then p else pc1 p (if fd V w 2 ≤ V 1 then 126 else 95)
section BL9
variable {Θ : mW} {N f b m q v0 v y : Nat} {c k n t : Int} {S S' S2 : Nat → Int → Int} {h h0 h2 : mH} {bO : (Int → Int) → Prop} {D G : Nat → Int → Int} {V β g : Int → Int}
def bilR (S : Nat → Int → Int) (w id : Int) : Int × (Int → Int) := bt3 (S 1) w (bt2 (S 1) w (bt1 (S 1) w id (S 6)))
theorem bt1_le {w id : Int} : 0 ≤ (bt1 V w id β).1 ∧ (bt1 V w id β).1 ≤ 30 := by
  unfold bt1 pI1 pc1
  dsimp only
  have a := nd_rng id
  have b := nd_rng (fd V w 8)
  have d := nd_rng (fd V w 3)
  omega
theorem bt2_le {w : Int} {p : Int × (Int → Int)} (h0 : 0 ≤ p.1) (h1 : p.1 ≤ 30) : 0 ≤ (bt2 V w p).1 ∧ (bt2 V w p).1 ≤ 40 := by
  unfold bt2 pI1 pc1
  have a := nd_rng (fd V w 6)
  split
  · omega
  · dsimp only; omega
end BL9
