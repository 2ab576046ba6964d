/-! command texts: no machine here -/
def kw (i : Nat) : List Nat := ([[115, 104, 105, 112, 32], [101, 110, 116, 101, 114, 32], [108, 101, 97, 118, 101, 32], [99, 108, 101, 97, 110, 32], [115, 116, 111, 112, 32], [111, 112, 101, 110], [99, 108, 111, 115, 101], [112, 117, 109, 112, 32], [112, 97, 115, 115, 32], [98, 108, 111, 99, 107, 32], [117, 110, 98, 108, 111, 99, 107, 32], [112, 97, 121, 32]] : List (List Nat)).getD i []
def seps (k : Nat) : List Nat := if k = 0 then [32, 32] else if k = 1 then [64] else if k = 11 then [43] else []
def mseq : List Nat → List Nat
  | [] => [35]
  | c :: cs => 35 :: c :: mseq cs
def tl (k : Nat) : List Nat := if k = 5 ∨ k = 6 then [] else if k = 7 then 45 :: mseq [] else mseq (seps k)
def fpat (k : Nat) : List Nat := mTx.getD k []
theorem fpat_eq : ∀ k : Fin 12, fpat k = kw k ++ tl k := by decide +kernel
theorem kw_ok : ∀ k : Fin 12, (kw k).all (fun c => decide (c ≠ 35) && decide (c ≠ 45)) = true := by decide +kernel
theorem kw_len : ∀ k : Fin 12, 4 ≤ (kw k).length ∧ (kw k).length ≤ 8 := by decide +kernel
theorem kw_sp : ∀ k : Fin 12, (k : Nat) = 5 ∨ (k : Nat) = 6 ∨ (kw k)[(kw k).length - 1]? = some 32 := by decide +kernel
theorem kw_free : ∀ i j : Fin 12, i ≠ j → (kw i).isPrefixOf (kw j) = false := by decide +kernel
section PA
variable {τ : Int → Int} {n : Int}
/-- how far a word goes on like the text -/
def lcp (τ : Int → Int) (n : Int) : List Nat → Int → Nat
  | [], _ => 0
  | c :: cs, p => if p < n ∧ τ p = c then lcp τ n cs (p + 1) + 1 else 0
def dgt (τ : Int → Int) (n p : Int) : Prop := p < n ∧ 48 ≤ τ p ∧ τ p ≤ 57
def nmv (τ : Int → Int) (n : Int) : Nat → Int → Int → Int × Int
  | 0, v, p => (v, p)
  | r + 1, v, p => if p < n ∧ 48 ≤ τ p ∧ τ p ≤ 57 then nmv τ n r (v * 10 + (τ p - 48)) (p + 1) else (v, p)
def mat (τ : Int → Int) (n : Int) : List Nat → Int → List Int → Int × Bool × List Int
  | [], p, ns => (p, true, ns)
  | c :: cs, p, ns => if c = 35 then (if (nmv τ n 3 0 p).2 = p then (p, false, ns) else mat τ n cs (nmv τ n 3 0 p).2 (ns ++ [if 0 ≤ p - 1 ∧ p - 1 < n ∧ τ (p - 1) = 45 then -(nmv τ n 3 0 p).1 else (nmv τ n 3 0 p).1])) else if p < n ∧ τ p = c then mat τ n cs (p + 1) ns else if c = 45 then mat τ n cs p ns else (p, false, ns)
def nb (τ : Int → Int) (n : Int) : List Nat → Int → List Int → Int × Bool × List Int
  | [], p, ns => if (nmv τ n 3 0 p).2 = p then (p, false, ns) else ((nmv τ n 3 0 p).2, true, ns ++ [(nmv τ n 3 0 p).1])
  | c :: cs, p, ns => if (nmv τ n 3 0 p).2 = p then (p, false, ns) else if (nmv τ n 3 0 p).2 < n ∧ τ (nmv τ n 3 0 p).2 = c then nb τ n cs ((nmv τ n 3 0 p).2 + 1) (ns ++ [(nmv τ n 3 0 p).1]) else ((nmv τ n 3 0 p).2, false, ns ++ [(nmv τ n 3 0 p).1])
def tail1 (τ : Int → Int) (n : Int) (k : Nat) (p : Int) : Int × Bool × List Int :=
  if k = 5 ∨ k = 6 then (p, true, []) else if k = 7 ∧ p < n ∧ τ p = 45 then (if (nmv τ n 3 0 (p + 1)).2 = p + 1 then (p + 1, false, []) else ((nmv τ n 3 0 (p + 1)).2, true, [-(nmv τ n 3 0 (p + 1)).1])) else nb τ n (seps k) p []
def kfd (τ : Int → Int) (n p : Int) : Nat → Nat → Option Nat
  | 0, _ => none
  | r + 1, i => if lcp τ n (kw i) p = (kw i).length then some i else kfd τ n p r (i + 1)
def kfx (τ : Int → Int) (n p : Int) : Nat → Nat → Int → Int
  | 0, _, f => f
  | r + 1, i, f => kfx τ n p r (i + 1) (max f (p + lcp τ n (kw i) p))
/-- a command at p: where it ends or goes wrong, and what it is -/
def cmd (τ : Int → Int) (n p : Int) : Int × Option (Nat × List Int) := match kfd τ n p 12 0 with
  | none => (kfx τ n p 12 0 p, none)
  | some k => ((tail1 τ n k (p + (kw k).length)).1, if (tail1 τ n k (p + (kw k).length)).2.1 = true then some (k, (tail1 τ n k (p + (kw k).length)).2.2) else none)
/-- the class's way: form by form -/
def rdn (τ : Int → Int) (n p : Int) : Nat → Nat → Int → Int × Option (Nat × List Int)
  | 0, _, f => (f, none)
  | r + 1, i, f => if (mat τ n (fpat i) p []).2.1 = true then ((mat τ n (fpat i) p []).1, some (i, (mat τ n (fpat i) p []).2.2)) else rdn τ n p r (i + 1) (max f (mat τ n (fpat i) p []).1)
theorem lcp_le : ∀ (l : List Nat) (p : Int), lcp τ n l p ≤ l.length
  | [], _ => Nat.le_refl _
  | c :: cs, p => by
    have := lcp_le cs (p + 1)
    rw [lcp, List.length_cons]
    split <;> omega
theorem lcp_n : ∀ (l : List Nat) (p : Int), p ≤ n → p + lcp τ n l p ≤ n
  | [], p, h => by simp [lcp]; omega
  | c :: cs, p, h => by
    rw [lcp]
    split
    · have := lcp_n cs (p + 1) (by omega)
      omega
    · omega
theorem nmv_ge : ∀ (r : Nat) (v p : Int), p ≤ (nmv τ n r v p).2 ∧ (nmv τ n r v p).2 ≤ p + r ∧ (p ≤ n → (nmv τ n r v p).2 ≤ n)
  | 0, v, p => by simp [nmv]
  | r + 1, v, p => by
    rw [nmv]
    split
    · have := nmv_ge r (v * 10 + (τ p - 48)) (p + 1)
      omega
    · dsimp only
      omega
theorem nmv_v : ∀ (r : Nat) (v p : Int) (B : Int), 0 ≤ v → v < B → 0 ≤ (nmv τ n r v p).1 ∧ (nmv τ n r v p).1 < B * pw r
  | 0, v, p, B, h0, h1 => by simp [nmv, pw]; omega
  | r + 1, v, p, B, h0, h1 => by
    have p0 := pw_pos r
    have e : B * pw (r + 1) = (B * 10) * pw r := by rw [pw, Int.mul_assoc]
    rw [nmv, e]
    split
    · exact nmv_v r _ (p + 1) (B * 10) (by omega) (by omega)
    · dsimp only
      refine ⟨h0, ?_⟩
      have : B * 10 ≤ B * 10 * pw r := by
        have := Int.mul_le_mul_of_nonneg_left (show (1 : Int) ≤ pw r by omega) (show 0 ≤ B * 10 by omega)
        omega
      omega
theorem nmv_999 {p : Int} : 0 ≤ (nmv τ n 3 0 p).1 ∧ (nmv τ n 3 0 p).1 ≤ 999 := by
  have := nmv_v (τ := τ) (n := n) 3 0 p 1 (by omega) (by omega)
  have e : pw 3 = 1000 := rfl
  rw [e] at this
  omega
theorem mat_ge : ∀ (l : List Nat) (p : Int) (ns : List Int), p ≤ (mat τ n l p ns).1
  | [], p, ns => Int.le_refl _
  | c :: cs, p, ns => by
    have g := nmv_ge (τ := τ) (n := n) 3 0 p
    rw [mat]
    split
    · split
      · exact Int.le_refl _
      · have := mat_ge cs (nmv τ n 3 0 p).2 (ns ++ [if 0 ≤ p - 1 ∧ p - 1 < n ∧ τ (p - 1) = 45 then -(nmv τ n 3 0 p).1 else (nmv τ n 3 0 p).1])
        omega
    · split
      · have := mat_ge cs (p + 1) ns
        omega
      · split
        · exact mat_ge cs p ns
        · exact Int.le_refl _
theorem mat_n : ∀ (l : List Nat) (p : Int) (ns : List Int), p ≤ n → (mat τ n l p ns).1 ≤ n
  | [], p, ns, h => h
  | c :: cs, p, ns, h => by
    have g := nmv_ge (τ := τ) (n := n) 3 0 p
    rw [mat]
    split
    · split
      · exact h
      · exact mat_n cs _ _ (g.2.2 h)
    · split
      · exact mat_n cs _ _ (by omega)
      · split
        · exact mat_n cs p ns h
        · exact h
theorem mat_kw {t : List Nat} : ∀ (l : List Nat) (p : Int) (ns : List Int), l.all (fun c => decide (c ≠ 35) && decide (c ≠ 45)) = true → mat τ n (l ++ t) p ns = if lcp τ n l p = l.length then mat τ n t (p + l.length) ns else (p + lcp τ n l p, false, ns)
  | [], p, ns, h => by simp [lcp]
  | c :: cs, p, ns, h => by
    simp only [List.all_cons, Bool.and_eq_true, decide_eq_true_eq] at h
    have ih := mat_kw (t := t) cs (p + 1) ns h.2
    rw [List.cons_append, mat, if_neg h.1.1, lcp, List.length_cons]
    by_cases d : p < n ∧ τ p = c
    · rw [if_pos d, if_pos d, ih]
      by_cases e : lcp τ n cs (p + 1) = cs.length
      · rw [if_pos e, if_pos (by omega), show p + 1 + (cs.length : Int) = p + ((cs.length + 1 : Nat) : Int) by omega]
      · rw [if_neg e, if_neg (by omega), show p + 1 + (lcp τ n cs (p + 1) : Int) = p + ((lcp τ n cs (p + 1) + 1 : Nat) : Int) by omega]
    · rw [if_neg d, if_neg d, if_neg h.1.2, if_neg (by omega)]
      simp
theorem lcp_pre : ∀ (a b : List Nat) (p : Int), lcp τ n a p = a.length → a.length ≤ lcp τ n b p → a.isPrefixOf b = true
  | [], b, p, _, _ => by simp
  | c :: cs, [], p, h1, h2 => by simp [lcp] at h2
  | c :: cs, d :: ds, p, h1, h2 => by
    rw [lcp, List.length_cons] at h1
    rw [lcp, List.length_cons] at h2
    split at h1
    · rename_i e1
      split at h2
      · rename_i e2
        have : c = d := by omega
        subst this
        simp only [List.isPrefixOf, beq_self_eq_true, Bool.true_and]
        exact lcp_pre cs ds (p + 1) (by omega) (by omega)
      · omega
    · omega
theorem kw_one {i j : Nat} {p : Int} (hi : i < 12) (hj : j < 12) (hij : i ≠ j) (h : lcp τ n (kw i) p = (kw i).length) : lcp τ n (kw j) p < (kw i).length := by
  by_cases c : lcp τ n (kw j) p < (kw i).length
  · exact c
  · have a := lcp_pre (kw i) (kw j) p h (by omega)
    have b := kw_free ⟨i, hi⟩ ⟨j, hj⟩ (fun x => hij (by simpa using congrArg Fin.val x))
    simp only at b
    rw [b] at a
    cases a
theorem mat_f {i : Nat} {p : Int} (hi : i < 12) : mat τ n (fpat i) p [] = if lcp τ n (kw i) p = (kw i).length then mat τ n (tl i) (p + (kw i).length) [] else (p + lcp τ n (kw i) p, false, []) := by
  have e := fpat_eq ⟨i, hi⟩
  simp only at e
  rw [e]
  exact mat_kw _ _ _ (kw_ok ⟨i, hi⟩)
theorem rdn_none {p : Int} : ∀ (r i : Nat) (f : Int), i + r ≤ 12 → (∀ j, i ≤ j → j < i + r → lcp τ n (kw j) p ≠ (kw j).length) → rdn τ n p r i f = (kfx τ n p r i f, none)
  | 0, _, _, _, _ => rfl
  | r + 1, i, f, h, g => by
    have e := mat_f (τ := τ) (n := n) (p := p) (i := i) (by omega)
    rw [if_neg (g i (by omega) (by omega))] at e
    rw [rdn, kfx, e, if_neg (by simp)]
    exact rdn_none r (i + 1) _ (by omega) (fun j a b => g j (by omega) (by omega))
theorem rdn_stay {p : Int} {k : Nat} (hk : k < 12) (h : lcp τ n (kw k) p = (kw k).length) : ∀ (r i : Nat) (f : Int), i + r ≤ 12 → k < i → p + (kw k).length ≤ f → rdn τ n p r i f = (f, none)
  | 0, _, _, _, _, _ => rfl
  | r + 1, i, f, a, b, c => by
    have o := kw_one (τ := τ) (n := n) (p := p) hk (show i < 12 by omega) (by omega) h
    have l := lcp_le (τ := τ) (n := n) (kw i) p
    have e := mat_f (τ := τ) (n := n) (p := p) (i := i) (by omega)
    have ne : lcp τ n (kw i) p ≠ (kw i).length := fun z => by
      have := kw_one (τ := τ) (n := n) (p := p) (show i < 12 by omega) hk (by omega) z
      omega
    rw [if_neg ne] at e
    rw [rdn, e, if_neg (by simp)]
    dsimp only
    rw [Int.max_eq_left (by omega)]
    exact rdn_stay hk h r (i + 1) f (by omega) (by omega) c
theorem rdn_some {p : Int} {k : Nat} (hk : k < 12) (h : lcp τ n (kw k) p = (kw k).length) : ∀ (r i : Nat) (f : Int), i + r = 12 → i ≤ k → f ≤ p + (kw k).length → rdn τ n p r i f = ((mat τ n (tl k) (p + (kw k).length) []).1, if (mat τ n (tl k) (p + (kw k).length) []).2.1 = true then some (k, (mat τ n (tl k) (p + (kw k).length) []).2.2) else none)
  | 0, i, f, a, b, c => by omega
  | r + 1, i, f, a, b, c => by
    have e := mat_f (τ := τ) (n := n) (p := p) (i := i) (by omega)
    by_cases z : i = k
    · subst z
      rw [if_pos h] at e
      have ge := mat_ge (τ := τ) (n := n) (tl i) (p + (kw i).length) []
      rw [rdn, e]
      by_cases d : (mat τ n (tl i) (p + (kw i).length) []).2.1 = true
      · rw [if_pos d, if_pos d]
      · rw [if_neg d, if_neg d, Int.max_eq_right (by omega)]
        exact rdn_stay hk h r (i + 1) _ (by omega) (by omega) ge
    · have o := kw_one (τ := τ) (n := n) (p := p) hk (show i < 12 by omega) (fun x => z x.symm) h
      have ne : lcp τ n (kw i) p ≠ (kw i).length := fun y => by
        have := kw_one (τ := τ) (n := n) (p := p) (show i < 12 by omega) hk z y
        omega
      rw [if_neg ne] at e
      rw [rdn, e, if_neg (by simp)]
      exact rdn_some hk h r (i + 1) _ (by omega) (by omega) (by dsimp only; omega)
theorem kfd_none {p : Int} : ∀ (r i : Nat), kfd τ n p r i = none → ∀ j, i ≤ j → j < i + r → lcp τ n (kw j) p ≠ (kw j).length
  | 0, i, _, j, a, b => by omega
  | r + 1, i, h, j, a, b => by
    rw [kfd] at h
    split at h
    · cases h
    · rename_i c
      by_cases d : j = i
      · rw [d]; exact c
      · exact kfd_none r (i + 1) h j (by omega) (by omega)
theorem kfd_some {p : Int} {k : Nat} : ∀ (r i : Nat), kfd τ n p r i = some k → (i ≤ k ∧ k < i + r) ∧ lcp τ n (kw k) p = (kw k).length
  | 0, i, h => by cases h
  | r + 1, i, h => by
    rw [kfd] at h
    split at h
    · rename_i c
      cases h
      exact ⟨by omega, c⟩
    · have := kfd_some r (i + 1) h
      exact ⟨by omega, this.2⟩
theorem nb_mat : ∀ (sp : List Nat) (p : Int) (ns : List Int), sp.all (fun c => decide (c ≠ 35) && decide (c ≠ 45)) = true → ¬ (0 ≤ p - 1 ∧ p - 1 < n ∧ τ (p - 1) = 45) → mat τ n (mseq sp) p ns = nb τ n sp p ns
  | [], p, ns, h, g => by
    rw [mseq, mat, if_pos rfl, nb, if_neg g]
    rfl
  | c :: cs, p, ns, h, g => by
    simp only [List.all_cons, Bool.and_eq_true, decide_eq_true_eq] at h
    rw [mseq, mat, if_pos rfl, nb, if_neg g]
    by_cases d : (nmv τ n 3 0 p).2 = p
    · rw [if_pos d, if_pos d]
    · rw [if_neg d, if_neg d, mat, if_neg h.1.1]
      by_cases e : (nmv τ n 3 0 p).2 < n ∧ τ (nmv τ n 3 0 p).2 = c
      · rw [if_pos e, if_pos e]
        exact nb_mat cs _ _ h.2 (fun z => by
          rw [show (nmv τ n 3 0 p).2 + 1 - 1 = (nmv τ n 3 0 p).2 by omega] at z
          omega)
      · rw [if_neg e, if_neg e, if_neg h.1.2]
theorem tail_mat {k : Nat} {p : Int} (hk : k < 12) (hp : 0 ≤ p) (g : k = 5 ∨ k = 6 ∨ τ (p - 1) = 32) : mat τ n (tl k) p [] = tail1 τ n k p := by
  unfold tl tail1
  by_cases c : k = 5 ∨ k = 6
  · rw [if_pos c, if_pos c]
    rfl
  · have g' : ¬ (0 ≤ p - 1 ∧ p - 1 < n ∧ τ (p - 1) = 45) := fun z => by omega
    rw [if_neg c, if_neg c]
    by_cases d : k = 7
    · subst d
      rw [if_pos rfl, mat, if_neg (by omega)]
      by_cases e : p < n ∧ τ p = 45
      · rw [if_pos (show p < n ∧ τ p = ((45 : Nat) : Int) from e), if_pos ⟨rfl, e⟩, mseq, mat, if_pos rfl]
        by_cases f : (nmv τ n 3 0 (p + 1)).2 = p + 1
        · rw [if_pos f, if_pos f]
        · rw [if_neg f, if_neg f, if_pos ⟨by omega, by omega, by rw [show p + 1 - 1 = p by omega]; exact e.2⟩]
          rfl
      · rw [if_neg (show ¬ (p < n ∧ τ p = ((45 : Nat) : Int)) from e), if_pos rfl, if_neg (fun z => e z.2)]
        exact nb_mat [] p [] rfl g'
    · rw [if_neg d, if_neg (fun z => d z.1)]
      refine nb_mat (seps k) p [] ?_ g'
      unfold seps
      repeat' split
      all_goals decide
theorem lcp_at : ∀ (l : List Nat) (p : Int) (j : Nat) (c : Nat), lcp τ n l p = l.length → l[j]? = some c → τ (p + j) = c
  | [], p, j, c, _, h => by simp at h
  | d :: ds, p, 0, c, h, g => by
    rw [lcp] at h
    simp at g
    split at h
    · rename_i e
      rw [← g, show p + ((0 : Nat) : Int) = p by omega]
      exact e.2
    · simp at h
  | d :: ds, p, j + 1, c, h, g => by
    rw [lcp] at h
    rw [List.getElem?_cons_succ] at g
    split at h
    · rw [List.length_cons] at h
      have := lcp_at ds (p + 1) j c (by omega) g
      rw [show p + ((j + 1 : Nat) : Int) = p + 1 + j by omega]
      exact this
    · simp at h
theorem rdn_cmd {p : Int} (hp : 0 ≤ p) : rdn τ n p 12 0 p = cmd τ n p := by
  unfold cmd
  cases e : kfd τ n p 12 0 with
  | none => exact rdn_none 12 0 p (by omega) (fun j a b => kfd_none 12 0 e j a b)
  | some k =>
    obtain ⟨a, b⟩ := kfd_some 12 0 e
    have hk : k < 12 := by omega
    have hl := kw_len ⟨k, hk⟩
    have hs := kw_sp ⟨k, hk⟩
    simp only at hl hs
    rw [rdn_some hk b 12 0 p (by omega) (by omega) (by omega)]
    have t : mat τ n (tl k) (p + (kw k).length) [] = tail1 τ n k (p + (kw k).length) := tail_mat hk (by omega) (by
      rcases hs with h | h | h
      · exact Or.inl h
      · exact Or.inr (Or.inl h)
      · right; right
        have := lcp_at (kw k) p ((kw k).length - 1) 32 b h
        rw [show p + ((kw k).length : Int) - 1 = p + (((kw k).length - 1 : Nat) : Int) by omega]
        exact this)
    rw [t]
end PA
