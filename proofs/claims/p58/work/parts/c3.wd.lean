/-! the law's world: the class's cells and the line's letters; what stays where the class works -/
def KC (f v x : Nat) : Prop := (f ≤ x ∧ x < f + 157) ∨ x = v
def FR (Θ : mW) (f v v' : Nat) (h h' : mH) (y z : Nat) : Prop := Nx Θ h h' (KC f v) y z ∧ (v' = v ∨ mwB Θ + h.length ≤ v')
def WD (Θ : mW) (f : Nat) (c : Int) (v : Nat) (h : mH) (S : Nat → Int → Int) : Prop := KX Θ f c h S (fun _ => False) ∧ FTW Θ f h ∧ (∃ n β, SBs Θ (f + 155) v n β h) ∧ (v = f + 156 ∨ f + 157 ≤ v)
section WD
variable {Θ : mW} {N f v v1 v2 y z y2 z2 : Nat} {c c2 : Int} {S S2 : Nat → Int → Int} {h h1 h2 : mH} {bO : (Int → Int) → Prop} {P : Nat → Prop}
theorem FR.refl : FR Θ f v v h h 0 0 := ⟨Nx.refl, Or.inl rfl⟩
theorem FR.trans (a : FR Θ f v v1 h h1 y z) (b : FR Θ f v1 v2 h1 h2 y2 z2) : FR Θ f v v2 h h2 (y + y2) (z + z2) := by
  obtain ⟨⟨a1, a2, a3⟩, a4⟩ := a
  obtain ⟨⟨b1, b2, b3⟩, b4⟩ := b
  refine ⟨⟨by omega, by omega, fun x hx hp => ?_⟩, ?_⟩
  · rw [b3 x (by omega) (fun q => ?_), a3 x hx hp]
    rcases q with q | q
    · exact hp (Or.inl q)
    · rcases a4 with e | e
      · exact hp (Or.inr (q.trans e))
      · omega
  · rcases b4 with e | e
    · rcases a4 with g | g
      · exact Or.inl (e.trans g)
      · exact Or.inr (by omega)
    · exact Or.inr (by omega)
theorem FR.up (a : FR Θ f v v1 h h1 y z) (hy : y ≤ y2) (hz : z ≤ z2) : FR Θ f v v1 h h1 y2 z2 := ⟨a.1.up hy hz, a.2⟩
theorem FR.of (a : Nx Θ h h1 P y z) (hp : ∀ x, P x → f ≤ x ∧ x < f + 157) : FR Θ f v v h h1 y z := ⟨a.wid (fun x _ q => Or.inl (hp x q)) (by omega) (by omega), Or.inl rfl⟩
theorem FR.ex {n : Nat} : FR Θ f v v h (h ++ [oB n []]) 1 6 := FR.of (P := fun _ => False) Nx.ex (fun _ q => q.elim)
theorem WD.k (w : WD Θ f c v h S) : KX Θ f c h S (fun _ => False) := w.1
theorem WD.g (w : WD Θ f c v h S) : FTW Θ f h := w.2.1
theorem WD.i (w : WD Θ f c v h S) : In c (S 1) := w.1.ok.1
theorem WD.O (w : WD Θ f c v h S) {ρ : Type} {p : Option ρ} : gO Θ h 0 f p = p := w.1.gO
/-- the class's docks and numbers change alone -/
theorem WD.step (w : WD Θ f c v h S) (k : KX Θ f c2 h2 S2 (fun _ => False)) (x : Nx Θ h h2 P y z) (hp : ∀ x, P x → f ≤ x ∧ x < f + 146) : WD Θ f c2 v h2 S2 := by
  obtain ⟨w1, ⟨G, w2⟩, ⟨n, β, w3⟩, w4⟩ := w
  have hL : shG.length = 5 := rfl
  exact ⟨k, ⟨G, w2.nx x (fun u u1 u2 q => by have := hp u q; omega)⟩, ⟨n, β, sb_nx w3 x (fun q => by have := hp _ q; omega) (fun q => by have := hp _ q; omega)⟩, w4⟩
/-- something else is made -/
theorem WD.out (w : WD Θ f c v h S) (x : Nx Θ h h2 P y z) (hp : ∀ x, P x → ¬ KC f v x) : WD Θ f c v h2 S := by
  obtain ⟨w1, ⟨G, w2⟩, ⟨n, β, w3⟩, w4⟩ := w
  have hL : shG.length = 5 := rfl
  refine ⟨w1.nx x (fun u q1 q2 => ?_), ⟨G, w2.nx x (fun u u1 u2 q => hp u q (Or.inl (by omega)))⟩, ⟨n, β, sb_nx w3 x (fun q => hp _ q (Or.inl (by omega))) (fun q => hp _ q (Or.inr rfl))⟩, w4⟩
  unfold KR at q1
  exact hp u q2 (Or.inl (by omega))
theorem WD.ex (w : WD Θ f c v h S) {n : Nat} : WD Θ f c v (h ++ [oB n []]) S := w.out (P := fun _ => False) Nx.ex (fun _ q => q.elim)
theorem WD.fit (w : WD Θ f c v h S) (k : KX Θ f c h2 S (fun _ => False)) (g : FTW Θ f h2) (x : Nx Θ h h2 (fun x => f + 146 ≤ x ∧ x < f + 151) y z) : WD Θ f c v h2 S := by
  obtain ⟨w1, w2, ⟨n, β, w3⟩, w4⟩ := w
  exact ⟨k, g, ⟨n, β, sb_nx w3 x (fun q => by omega) (fun q => by omega)⟩, w4⟩
theorem WD.mono (w : WD Θ f c v h S) (hc : c ≤ c2) : WD Θ f c2 v h S := ⟨w.1.mono hc, w.2⟩
theorem FR.fit (x : Nx Θ h h2 (fun x => f + 146 ≤ x ∧ x < f + 151) y z) : FR Θ f v v h h2 y z := FR.of x (fun _ q => ⟨by omega, by omega⟩)
theorem FR.kr (x : Nx Θ h h2 (KR f) y z) : FR Θ f v v h h2 y z := FR.of x (fun u q => by unfold KR at q; omega)
theorem WD.kr (w : WD Θ f c v h S) (k : KX Θ f c2 h2 S2 (fun _ => False)) (x : Nx Θ h h2 (KR f) y z) : WD Θ f c2 v h2 S2 := w.step k x (fun u q => by unfold KR at q; exact q)
theorem bx_id {α : Type} (p : Option ((α ⊕ Nat) × mH)) : bx p (fun a h => some ((.inl a : α ⊕ Nat), h)) (fun n9 h9 => xp n9 h9) = p := by
  rcases p with _ | ⟨a | n, h⟩ <;> rfl
/-! a question of the law: exceptions are numbers -/
def hq (n : Nat) (h : mH) : Option (Int32 × mH) := if n = 10 then some (J (-2004), h) else if n = 11 then some (J (-2003), h) else if n = 12 then some (J (-2005), h) else if n = 14 then some (J (-2002), h) else none

theorem w_q0 (w : WD Θ f c v h S) {p : Int32} : P_W_ask Θ N h f (J 0) p = bx (P_F_shipAt Θ N h f p) (fun v2 h1 => some (v2, h1)) hq := by
  have e : P_W_asked Θ N h f (J 0) p = P_F_shipAt Θ N h f p := by
    unfold P_W_asked
    rw [if_neg (by decide), if_pos rfl, w.O, bx_id]
  unfold P_W_ask
  rw [e]
  rfl
theorem w_q1 (w : WD Θ f c v h S) {p : Int32} : P_W_ask Θ N h f (J 1) p = bx (P_F_positionOf Θ N h f p) (fun v2 h1 => some (v2, h1)) hq := by
  have e : P_W_asked Θ N h f (J 1) p = P_F_positionOf Θ N h f p := by
    unfold P_W_asked
    rw [if_neg (by decide), if_neg (show ¬ J 1 = J 0 by decide), if_pos rfl, w.O, bx_id]
  unfold P_W_ask
  rw [e]
  rfl
theorem w_q3 (w : WD Θ f c v h S) {p : Int32} : P_W_ask Θ N h f (J 3) p = bx (P_F_seaLevel Θ N h f p) (fun v2 h1 => some (v2, h1)) hq := by
  have e : P_W_asked Θ N h f (J 3) p = P_F_seaLevel Θ N h f p := by
    unfold P_W_asked
    rw [if_neg (by decide), if_neg (show ¬ J 3 = J 0 by decide), if_neg (show ¬ J 3 = J 1 by decide), if_neg (show ¬ J 3 = J 2 by decide), if_pos rfl, w.O, bx_id]
  unfold P_W_ask
  rw [e]
  rfl
theorem w_q4 (w : WD Θ f c v h S) {p : Int32} : P_W_ask Θ N h f (J 4) p = bx (P_F_levelAfter Θ N h f p) (fun v2 h1 => some (v2, h1)) hq := by
  have e : P_W_asked Θ N h f (J 4) p = P_F_levelAfter Θ N h f p := by
    unfold P_W_asked
    rw [if_neg (by decide), if_neg (show ¬ J 4 = J 0 by decide), if_neg (show ¬ J 4 = J 1 by decide), if_neg (show ¬ J 4 = J 2 by decide), if_neg (show ¬ J 4 = J 3 by decide), if_pos rfl, w.O, bx_id]
  unfold P_W_ask
  rw [e]
  rfl
theorem w_q5 (w : WD Θ f c v h S) {p : Int32} : P_W_ask Θ N h f (J 5) p = bx (P_F_hoursUntilAfloat Θ N h f p) (fun v2 h1 => some (v2, h1)) hq := by
  have e : P_W_asked Θ N h f (J 5) p = P_F_hoursUntilAfloat Θ N h f p := by
    unfold P_W_asked
    rw [if_neg (by decide), if_neg (show ¬ J 5 = J 0 by decide), if_neg (show ¬ J 5 = J 1 by decide), if_neg (show ¬ J 5 = J 2 by decide), if_neg (show ¬ J 5 = J 3 by decide), if_neg (show ¬ J 5 = J 4 by decide), if_pos rfl, w.O, bx_id]
  unfold P_W_ask
  rw [e]
  rfl
theorem w_q7 (w : WD Θ f c v h S) {p : Int32} : P_W_ask Θ N h f (J 7) p = bx (P_F_shipAtPosition Θ N h f p) (fun v2 h1 => some (v2, h1)) hq := by
  have e : P_W_asked Θ N h f (J 7) p = P_F_shipAtPosition Θ N h f p := by
    unfold P_W_asked
    rw [if_neg (by decide), if_neg (show ¬ J 7 = J 0 by decide), if_neg (show ¬ J 7 = J 1 by decide), if_neg (show ¬ J 7 = J 2 by decide), if_neg (show ¬ J 7 = J 3 by decide), if_neg (show ¬ J 7 = J 4 by decide), if_neg (show ¬ J 7 = J 5 by decide), if_neg (show ¬ J 7 = J 6 by decide), if_pos rfl, w.O, bx_id]
  unfold P_W_ask
  rw [e]
  rfl
theorem w_q8 (w : WD Θ f c v h S) {p : Int32} : P_W_ask Θ N h f (J 8) p = bx (P_F_firstGap Θ N h f p) (fun v2 h1 => some (v2, h1)) hq := by
  have e : P_W_asked Θ N h f (J 8) p = P_F_firstGap Θ N h f p := by
    unfold P_W_asked
    rw [if_neg (by decide), if_neg (show ¬ J 8 = J 0 by decide), if_neg (show ¬ J 8 = J 1 by decide), if_neg (show ¬ J 8 = J 2 by decide), if_neg (show ¬ J 8 = J 3 by decide), if_neg (show ¬ J 8 = J 4 by decide), if_neg (show ¬ J 8 = J 5 by decide), if_neg (show ¬ J 8 = J 6 by decide), if_neg (show ¬ J 8 = J 7 by decide), if_pos rfl, w.O, bx_id]
  unfold P_W_ask
  rw [e]
  rfl
theorem w_q9 (w : WD Θ f c v h S) {p : Int32} : P_W_ask Θ N h f (J 9) p = bx (P_F_firstGapByShips Θ N h f p) (fun v2 h1 => some (v2, h1)) hq := by
  have e : P_W_asked Θ N h f (J 9) p = P_F_firstGapByShips Θ N h f p := by
    unfold P_W_asked
    rw [if_neg (by decide), if_neg (show ¬ J 9 = J 0 by decide), if_neg (show ¬ J 9 = J 1 by decide), if_neg (show ¬ J 9 = J 2 by decide), if_neg (show ¬ J 9 = J 3 by decide), if_neg (show ¬ J 9 = J 4 by decide), if_neg (show ¬ J 9 = J 5 by decide), if_neg (show ¬ J 9 = J 6 by decide), if_neg (show ¬ J 9 = J 7 by decide), if_neg (show ¬ J 9 = J 8 by decide), if_pos rfl, w.O, bx_id]
  unfold P_W_ask
  rw [e]
  rfl
theorem w_q10 (w : WD Θ f c v h S) {p : Int32} : P_W_ask Θ N h f (J 10) p = bx (P_F_shipAtRank Θ N h f p) (fun v2 h1 => some (v2, h1)) hq := by
  have e : P_W_asked Θ N h f (J 10) p = P_F_shipAtRank Θ N h f p := by
    unfold P_W_asked
    rw [if_neg (by decide), if_neg (show ¬ J 10 = J 0 by decide), if_neg (show ¬ J 10 = J 1 by decide), if_neg (show ¬ J 10 = J 2 by decide), if_neg (show ¬ J 10 = J 3 by decide), if_neg (show ¬ J 10 = J 4 by decide), if_neg (show ¬ J 10 = J 5 by decide), if_neg (show ¬ J 10 = J 6 by decide), if_neg (show ¬ J 10 = J 7 by decide), if_neg (show ¬ J 10 = J 8 by decide), if_neg (show ¬ J 10 = J 9 by decide), if_pos rfl, w.O, bx_id]
  unfold P_W_ask
  rw [e]
  rfl
theorem w_q13 (w : WD Θ f c v h S) {p : Int32} : P_W_ask Θ N h f (J 13) p = bx (P_F_dirtOf Θ N h f p) (fun v2 h1 => some (v2, h1)) hq := by
  have e : P_W_asked Θ N h f (J 13) p = P_F_dirtOf Θ N h f p := by
    unfold P_W_asked
    rw [if_pos (by decide), w.O, bx_id]
  unfold P_W_ask
  rw [e]
  rfl
theorem w_told {x : Int} (hx : x = 0 ∨ x = 1) : P_W_told Θ N h (J x) = some (J x, h) := by
  unfold P_W_told
  rcases hx with rfl | rfl
  · rw [if_pos (show J 0 = (0 : Int32) from rfl)]
  · rw [if_neg (show ¬ J 1 = (0 : Int32) by decide)]
/-! what each question answers -/
theorem a_pos (w : WD Θ f c v h S) (hN : 2000 ≤ N) {p : Int} (hp : int' p) : P_W_ask Θ N h f (J 7) (J p) = if 0 ≤ p ∧ p ≤ 59 then (if at' (S 1) p = -1 then some (J (-2004), h ++ [oB 10 []]) else some (J (fd (S 1) (at' (S 1) p) 0), h)) else some (J (-2003), h ++ [oB 11 []]) := by
  rw [w_q7 w, x_shipAtPos hp hN w.k]
  by_cases a : 0 ≤ p ∧ p ≤ 59
  · rw [if_pos a, if_pos a]
    by_cases b : at' (S 1) p = -1
    · rw [if_pos b, if_pos b]; rfl
    · rw [if_neg b, if_neg b]; rfl
  · rw [if_neg a, if_neg a]; rfl
theorem a_blk (w : WD Θ f c v h S) (hN : 2000 ≤ N) {p : Int} (hp : int' p) : P_W_ask Θ N h f (J 6) (J p) = if 0 ≤ p ∧ p ≤ 59 then some (J (if S 1 (80 + p) = 1 then 1 else 0), h) else some (J (-2003), h ++ [oB 11 []]) := by
  have e : P_W_asked Θ N h f (J 6) (J p) = if 0 ≤ p ∧ p ≤ 59 then some (.inl (J (if S 1 (80 + p) = 1 then 1 else 0)), h) else some (.inr 11, h ++ [oB 11 []]) := by
    unfold P_W_asked
    rw [if_neg (by decide), if_neg (show ¬ J 6 = J 0 by decide), if_neg (show ¬ J 6 = J 1 by decide), if_neg (show ¬ J 6 = J 2 by decide), if_neg (show ¬ J 6 = J 3 by decide), if_neg (show ¬ J 6 = J 4 by decide), if_neg (show ¬ J 6 = J 5 by decide), if_pos rfl, w.O, x_hasBlock hp hN w.k]
    by_cases a : 0 ≤ p ∧ p ≤ 59
    · simp only [if_pos a]
      rw [bx_inl, w_told (by split <;> simp), bc_some]
    · simp only [if_neg a]
      rfl
  unfold P_W_ask
  rw [e]
  by_cases a : 0 ≤ p ∧ p ≤ 59
  · rw [if_pos a, if_pos a]; rfl
  · rw [if_neg a, if_neg a]; rfl
theorem a_gap1 (w : WD Θ f c v h S) (hN : 2000 ≤ N) {l : Int} (hl : int' l) : P_W_ask Θ N h f (J 8) (J l) = if 1 ≤ l ∧ l ≤ 60 then (if gpf (S 1) l (62 - l).toNat 0 = -1 then some (J (-2004), h ++ [oB 10 []]) else some (J (gpf (S 1) l (62 - l).toNat 0), h)) else some (J (-2003), h ++ [oB 11 []]) := by
  rw [w_q8 w, x_gap1 hl hN w.k]
  by_cases a : 1 ≤ l ∧ l ≤ 60
  · rw [if_pos a, if_pos a]
    by_cases b : gpf (S 1) l (62 - l).toNat 0 = -1
    · rw [if_pos b, if_pos b]; rfl
    · rw [if_neg b, if_neg b]; rfl
  · rw [if_neg a, if_neg a]; rfl
theorem a_gap2 (w : WD Θ f c v h S) (hN : 2000 ≤ N) {l : Int} (hl : int' l) : P_W_ask Θ N h f (J 9) (J l) = if 1 ≤ l ∧ l ≤ 60 then (if gpf (S 1) l (62 - l).toNat 0 = -1 then some (J (-2004), h ++ [oB 10 []]) else some (J (gpf (S 1) l (62 - l).toNat 0), h)) else some (J (-2003), h ++ [oB 11 []]) := by
  rw [w_q9 w, x_gap2 hl hN w.k]
  by_cases a : 1 ≤ l ∧ l ≤ 60
  · rw [if_pos a, if_pos a]
    by_cases b : gpf (S 1) l (62 - l).toNat 0 = -1
    · rw [if_pos b, if_pos b]; rfl
    · rw [if_neg b, if_neg b]; rfl
  · rw [if_neg a, if_neg a]; rfl
theorem a_shipAt (w : WD Θ f c v h S) {p : Int} (hp : int' p) (hn : ¬ (0 ≤ p ∧ p ≤ S 1 4 - 1)) : P_W_ask Θ N h f (J 0) (J p) = some (J (-2002), h ++ [oB 14 []]) := by
  rw [w_q0 w, x_shipAt hp w.k, if_neg hn]
  rfl
theorem a_place (w : WD Θ f c v h S) (hN : 2000 ≤ N) {i : Int} (hi : int' i) : P_W_ask Θ N h f (J 1) (J i) = if fnd (S 1) i (mny (S 1)) = -1 then some (J (-2004), h ++ [oB 10 []]) else if fd (S 1) (fnd (S 1) i (mny (S 1))) 4 = -1 then some (J (-2005), h ++ [oB 12 []]) else some (J (fd (S 1) (fnd (S 1) i (mny (S 1))) 4), h) := by
  rw [w_q1 w, x_positionOf hi hN w.k]
  by_cases a : fnd (S 1) i (mny (S 1)) = -1
  · rw [if_pos a, if_pos a]; rfl
  · rw [if_neg a, if_neg a]
    by_cases b : fd (S 1) (fnd (S 1) i (mny (S 1))) 4 = -1
    · rw [if_pos b, if_pos b]; rfl
    · rw [if_neg b, if_neg b]; rfl
theorem a_sea (w : WD Θ f c v h S) {p : Int} (hp : int' p) (hn : ¬ (0 ≤ p ∧ p ≤ 9999)) : P_W_ask Θ N h f (J 3) (J p) = some (J (-2003), h ++ [oB 11 []]) := by
  rw [w_q3 w, x_seaLevel hp, if_neg hn]
  rfl
theorem a_lvl (w : WD Θ f c v h S) (hN : 2000 ≤ N) (c0 : 0 ≤ c) (c1 : c ≤ 2000) {p : Int} (hp : int' p) (hn : ¬ (0 ≤ p ∧ p ≤ 96)) : P_W_ask Θ N h f (J 4) (J p) = some (J (-2003), h ++ [oB 11 []]) := by
  rw [w_q4 w, x_levelAfter hp hN c0 c1 w.k, if_neg hn]
  rfl
theorem a_until (w : WD Θ f c v h S) (hN : 2000 ≤ N) (c0 : 0 ≤ c) (c1 : c ≤ 2000) {p : Int} (hp : int' p) : P_W_ask Θ N h f (J 5) (J p) = if fnd (S 1) p (mny (S 1)) = -1 then some (J (-2004), h ++ [oB 10 []]) else if fd (S 1) (fnd (S 1) p (mny (S 1))) 4 = -1 ∨ fd (S 1) (fnd (S 1) p (mny (S 1))) 2 ≤ S 1 1 then some (J 0, h) else if hgo (S 1) (fnd (S 1) p (mny (S 1))) 96 1 = -1 then some (J (-2005), h ++ [oB 12 []]) else some (J (hgo (S 1) (fnd (S 1) p (mny (S 1))) 96 1), h) := by
  rw [w_q5 w, x_hoursUntil hp hN c0 c1 w.k]
  by_cases a : fnd (S 1) p (mny (S 1)) = -1
  · rw [if_pos a, if_pos a]; rfl
  · rw [if_neg a, if_neg a]
    by_cases b : fd (S 1) (fnd (S 1) p (mny (S 1))) 4 = -1 ∨ fd (S 1) (fnd (S 1) p (mny (S 1))) 2 ≤ S 1 1
    · rw [if_pos b, if_pos b]; rfl
    · rw [if_neg b, if_neg b]
      by_cases d : hgo (S 1) (fnd (S 1) p (mny (S 1))) 96 1 = -1
      · rw [if_pos d, if_pos d]; rfl
      · rw [if_neg d, if_neg d]; rfl
theorem a_rank (w : WD Θ f c v h S) (hN : 2000 ≤ N) {p : Int} (hp : int' p) (hn : ¬ (0 ≤ p ∧ p < S 1 4)) : P_W_ask Θ N h f (J 10) (J p) = some (J (-2002), h ++ [oB 14 []]) := by
  have I := w.i
  have h4 := I.h4
  have z : rkx (S 1) p (mny (S 1)) 0 = -1 := by
    by_cases z : rkx (S 1) p (mny (S 1)) 0 = -1
    · exact z
    · exfalso
      have a := rkx_hit (V := S 1) (x := p) (mny (S 1)) 0 (by omega) z
      have rr := rkx_rng (V := S 1) (x := p) (mny (S 1)) 0 (by omega)
      have e : (mny (S 1) : Int) = S 1 4 := by unfold mny; omega
      have b := ahd_le (V := S 1) (a := rkx (S 1) p (mny (S 1)) 0) (mny (S 1))
      have l := ahd_top (V := S 1) (a := rkx (S 1) p (mny (S 1)) 0) (by omega) (by omega)
      omega
  rw [w_q10 w, x_shipAtRank hp hN w.k, if_pos z]
  rfl
theorem fnd_neg (I : In c (S 1)) {p : Int} (hp : p < 0) : fnd (S 1) p (mny (S 1)) = -1 := by
  rw [fnd_none]
  intro k hk e
  have h4 := I.h4
  have s := I.sh k (by omega) (by unfold mny at hk; omega)
  unfold shOK at s
  omega
theorem a_dirt (w : WD Θ f c v h S) (hN : 2000 ≤ N) {p : Int} (hp : int' p) (hn : p < 0) : P_W_ask Θ N h f (J 13) (J p) = some (J (-2004), h ++ [oB 10 []]) := by
  rw [w_q13 w, x_dirtOf hp hN w.k, if_pos (fnd_neg w.i hn)]
  rfl
/-! the script's numbers -/
theorem ush8 (x : Int32) : ∃ a : Int, ush x (J 8) = J a ∧ 0 ≤ a ∧ a < 2147483648 := by
  refine ⟨(ush x (J 8)).toInt, J_of _, ?_, ?_⟩
  · unfold ush
    have e : (J 8).toUInt32 &&& Int32.toUInt32 31 = 8 := by decide
    rw [e]
    have l : (x.toUInt32 >>> 8).toNat < 2 ^ 24 := by
      rw [UInt32.toNat_shiftRight]
      have : x.toUInt32.toNat < 2 ^ 32 := x.toUInt32.toNat_lt
      show x.toUInt32.toNat >>> (8 % 32) < 2 ^ 24
      rw [show 8 % 32 = 8 from rfl, Nat.shiftRight_eq_div_pow]
      omega
    show 0 ≤ ((x.toUInt32 >>> 8).toInt32).toBitVec.toInt
    rw [BitVec.toInt_eq_toNat_cond]
    have e2 : ((x.toUInt32 >>> 8).toInt32).toBitVec.toNat = (x.toUInt32 >>> 8).toNat := rfl
    rw [e2, if_pos (by omega)]
    omega
  · have := (ush x (J 8)).toInt_lt
    omega
def mxa (s a1 : Int32) : Int32 := (((69069 : Int32) * (s + ((J 1009) * a1))) + (J 12345))
def mxb (x : Int32) : Int32 := (x ^^^ (ush x (J 13))) * (1103515245 : Int32)
def mxc (x : Int32) : Int32 := x ^^^ (ush x (J 16))
noncomputable def clv (Θ : mW) (i : Int) : Int32 := match P_W_cell Θ 0 [] (J i) with
  | some q => q.1
  | none => 0
noncomputable def pkv (Θ : mW) (i m : Int) : Int := (ush (clv Θ i) (J 8)).toInt % m
theorem w_cell (hL : mwL Θ ≤ 1000000) {i : Int} (i0 : 0 ≤ i) (i1 : i < 1000) : P_W_cell Θ N h (J i) = some (clv Θ i, h) := by
  obtain ⟨x, e⟩ : ∃ x : Int32, ∀ (N : Nat) (h : mH), P_W_cell Θ N h (J i) = some (x, h) := by
    by_cases a : Int32.ofNat (mwL Θ) ≤ J i
    · refine ⟨mxc (mxb (mxa (J 0) (J i))), fun N h => ?_⟩
      unfold P_W_cell oXl
      rw [bo_some, jn_eq, if_pos a]
      rfl
    · have b : ¬ (J i < 0 ∨ mwL Θ ≤ (J i).toNatClampNeg) := by
        rw [J_ofNat, J_le (by omega) (by omega) (by omega) (by omega)] at a
        rw [J_lt0 (by omega) (by omega), J_nat (by omega) (by omega)]
        omega
      refine ⟨mxc (mxb (mxa (mwxs Θ (J i).toNatClampNeg) (J i))), fun N h => ?_⟩
      unfold P_W_cell oXl oX
      rw [bo_some, jn_eq, if_neg a, if_pos b, bo_some]
      rfl
  have e2 : clv Θ i = x := by
    unfold clv
    rw [e]
  rw [e2, e]
theorem pkv_rng {i m : Int} (hm : 1 ≤ m) : 0 ≤ pkv Θ i m ∧ pkv Θ i m < m := by
  unfold pkv
  exact ⟨Int.emod_nonneg _ (by omega), Int.emod_lt_of_pos _ (by omega)⟩
theorem w_pick (hL : mwL Θ ≤ 1000000) {i m : Int} (i0 : 0 ≤ i) (i1 : i < 1000) (hm : 1 ≤ m) (m1 : m < 2147483648) : P_W_pick Θ N h (J i) (J m) = some (J (pkv Θ i m), h) := by
  unfold P_W_pick
  rw [w_cell hL i0 i1, bc_some, if_neg (by rw [J_eq0 (by omega) (by omega)]; omega)]
  obtain ⟨a, e, a0, a1⟩ := ush8 (clv Θ i)
  have t : (ush (clv Θ i) (J 8)).toInt = a := by rw [e, J_toInt (by omega) a1]
  unfold pkv
  rw [t, e, J_div a0 a1 (by omega) m1, J_mul, J_sub]
  have : a - a / m * m = a % m := by
    have := Int.emod_add_mul_ediv a m
    rw [Int.mul_comm m] at this
    omega
  rw [this]
/-! a deed of the law -/
def ex4 (n : Nat) : Prop := n = 10 ∨ n = 11 ∨ n = 12 ∨ n = 13
theorem hd_some {n : Nat} (hn : ex4 n) (h3 : mH) : ∃ x : Int32, (if n = 10 then (some ((J (-2004)), h3)) else if n = 11 then (some ((J (-2003)), h3)) else if n = 12 then (some ((J (-2005)), h3)) else if n = 13 then (some ((J (-2001)), h3)) else none) = some (x, h3) := by
  rcases hn with rfl | rfl | rfl | rfl
  · exact ⟨_, rfl⟩
  · exact ⟨_, rfl⟩
  · exact ⟨_, rfl⟩
  · exact ⟨_, rfl⟩
/-- what a deed leaves -/
def DE (Θ : mW) (f : Nat) (c : Int) (v : Nat) (h : mH) (p : Option (Int32 × mH)) : Prop := ∃ (x : Int32) (h1 : mH) (S' : Nat → Int → Int), p = some (x, h1) ∧ WD Θ f (c + 1) v h1 S' ∧ FR Θ f v v h h1 1 6
theorem de_of (w : WD Θ f c v h S) {r : Oc} {pf pl : Option ((Int32 ⊕ Nat) × mH)} (fc : FC Θ f c h S pf r) (hr : ∀ n, r = .inr n → ex4 n) (g : Int32 → Int32) (hp : pl = bx pf (fun v2 h1 => some ((.inl (g v2) : Int32 ⊕ Nat), h1)) (fun n9 h9 => xp n9 h9)) : DE Θ f c v h (bx pl (fun v2 h1 => (some (v2, h1))) (fun n9 h3 => if n9 = 10 then (some ((J (-2004)), h3)) else if n9 = 11 then (some ((J (-2003)), h3)) else if n9 = 12 then (some ((J (-2005)), h3)) else if n9 = 13 then (some ((J (-2001)), h3)) else none)) := by
  obtain ⟨S', h1, a1, a2, a3, a4, a5, a6⟩ := fc
  rw [hp, a1]
  cases r with
  | inl p => exact ⟨g (J p.1), h1, S', rfl, w.kr a2 a3, (FR.kr a3).up (Nat.le_of_ble_eq_true rfl) (Nat.le_of_ble_eq_true rfl)⟩
  | inr n =>
    obtain ⟨x, e⟩ := hd_some (hr n rfl) h1
    exact ⟨x, h1, S', e, w.kr a2 a3, (FR.kr a3).up (Nat.le_of_ble_eq_true rfl) (Nat.le_of_ble_eq_true rfl)⟩
theorem de_ofb (w : WD Θ f c v h S) {r : Oc} {pf pl : Option ((Int32 ⊕ Nat) × mH)} (fc : FC Θ f c h S pf r) (hr : ∀ n, r = .inr n → ex4 n) (hp : pl = bx pf (fun v20 h19 => (bc (P_W_told Θ N h19 v20) (fun v22 h21 => (some ((.inl v22 : Int32 ⊕ Nat), h21))))) (fun n9 h9 => xp n9 h9)) : DE Θ f c v h (bx pl (fun v2 h1 => (some (v2, h1))) (fun n9 h3 => if n9 = 10 then (some ((J (-2004)), h3)) else if n9 = 11 then (some ((J (-2003)), h3)) else if n9 = 12 then (some ((J (-2005)), h3)) else if n9 = 13 then (some ((J (-2001)), h3)) else none)) := by
  refine de_of w fc hr (fun v => if v = 0 then J 0 else J 1) (hp.trans ?_)
  obtain ⟨S', h1, a1, a2⟩ := fc
  rw [a1]
  cases r with
  | inl p =>
    show bc (P_W_told Θ N h1 (J p.1)) (fun v22 h21 => (some ((Sum.inl v22 : Int32 ⊕ Nat), h21))) = some ((Sum.inl (if J p.1 = 0 then J 0 else J 1) : Int32 ⊕ Nat), h1)
    unfold P_W_told
    by_cases z : J p.1 = 0
    · rw [if_pos z, if_pos z]; rfl
    · rw [if_neg z, if_neg z]; rfl
  | inr n => rfl
theorem e_gAdd {l d t : Int} {V : Int → Int} : ∀ n, gAdd l d t V = .inr n → ex4 n := by
  intro n h
  unfold gAdd at h
  unfold ex4
  repeat' split at h
  all_goals first | (cases h; omega) | (cases h)
theorem e_gRmv {i : Int} {V : Int → Int} : ∀ n, gRmv i V = .inr n → ex4 n := by
  intro n h
  unfold gRmv at h
  unfold ex4
  repeat' split at h
  all_goals first | (cases h; omega) | (cases h)
theorem e_gEnt {i x : Int} {V : Int → Int} : ∀ n, gEnt i x V = .inr n → ex4 n := by
  intro n h
  unfold gEnt at h
  unfold ex4
  repeat' split at h
  all_goals first | (cases h; omega) | (cases h)
theorem e_gLea {i : Int} {V : Int → Int} : ∀ n, gLea i V = .inr n → ex4 n := by
  intro n h
  unfold gLea at h
  unfold ex4
  repeat' split at h
  all_goals first | (cases h; omega) | (cases h)
theorem e_gCle {i x : Int} {V : Int → Int} : ∀ n, gCle i x V = .inr n → ex4 n := by
  intro n h
  unfold gCle at h
  unfold ex4
  repeat' split at h
  all_goals first | (cases h; omega) | (cases h)
theorem e_gGat {x : Int} {V : Int → Int} : ∀ n, gGat x V = .inr n → ex4 n := by
  intro n h
  unfold gGat at h
  unfold ex4
  repeat' split at h
  all_goals first | (cases h; omega) | (cases h)
theorem e_gPum {x : Int} {V : Int → Int} : ∀ n, gPum x V = .inr n → ex4 n := by
  intro n h
  unfold gPum at h
  unfold ex4
  repeat' split at h
  all_goals first | (cases h; omega) | (cases h)
theorem e_gPas {x : Int} {V : Int → Int} : ∀ n, gPas x V = .inr n → ex4 n := by
  intro n h
  unfold gPas at h
  unfold ex4
  repeat' split at h
  all_goals first | (cases h; omega) | (cases h)
theorem e_gLay {x : Int} {V : Int → Int} : ∀ n, gLay x V = .inr n → ex4 n := by
  intro n h
  unfold gLay at h
  unfold ex4
  repeat' split at h
  all_goals first | (cases h; omega) | (cases h)
theorem e_gTak {x : Int} {V : Int → Int} : ∀ n, gTak x V = .inr n → ex4 n := by
  intro n h
  unfold gTak at h
  unfold ex4
  repeat' split at h
  all_goals first | (cases h; omega) | (cases h)
theorem e_gPay {i x : Int} {V : Int → Int} : ∀ n, gPay i x V = .inr n → ex4 n := by
  intro n h
  unfold gPay at h
  unfold ex4
  repeat' split at h
  all_goals first | (cases h; omega) | (cases h)
theorem de_0 {a1 a2 a3 : Int} (i1 : int' a1) (i2 : int' a2) (i3 : int' a3) (w : WD Θ f c v h S) (hN : 2000 ≤ N) (c0 : 0 ≤ c) (c1 : c ≤ 2000) : DE Θ f c v h (P_W_deed Θ N h f (J 0) (J a1) (J a2) (J a3)) := by
  have fc := x_add i1 i2 i3 hN c0 c1 w.k
  unfold P_W_deed
  refine de_of w fc e_gAdd (fun v => v) ?_
  unfold P_W_plain
  rw [if_neg (by decide), if_pos rfl, w.O]
theorem de_1 {a1 : Int} {z2 z3 : Int32} (i1 : int' a1) (w : WD Θ f c v h S) (hN : 2000 ≤ N) (c0 : 0 ≤ c) (c1 : c ≤ 2000) : DE Θ f c v h (P_W_deed Θ N h f (J 1) (J a1) z2 z3) := by
  have fc := x_rmv i1 hN c0 c1 w.k
  unfold P_W_deed
  refine de_of w fc e_gRmv (fun v => v) ?_
  unfold P_W_plain
  rw [if_neg (by decide), if_neg (show ¬ J 1 = J 0 by decide), if_pos rfl, w.O]
theorem de_2 {a1 a2 : Int} {z3 : Int32} (i1 : int' a1) (i2 : int' a2) (w : WD Θ f c v h S) (hN : 2000 ≤ N) (c0 : 0 ≤ c) (c1 : c ≤ 2000) : DE Θ f c v h (P_W_deed Θ N h f (J 2) (J a1) (J a2) z3) := by
  have fc := x_ent i1 i2 hN c0 c1 w.k
  unfold P_W_deed
  refine de_of w fc e_gEnt (fun v => v) ?_
  unfold P_W_plain
  rw [if_neg (by decide), if_neg (show ¬ J 2 = J 0 by decide), if_neg (show ¬ J 2 = J 1 by decide), if_pos rfl, w.O]
theorem de_3 {a1 : Int} {z2 z3 : Int32} (i1 : int' a1) (w : WD Θ f c v h S) (hN : 2000 ≤ N) (c0 : 0 ≤ c) (c1 : c ≤ 2000) : DE Θ f c v h (P_W_deed Θ N h f (J 3) (J a1) z2 z3) := by
  have fc := x_lea i1 hN c0 c1 w.k
  unfold P_W_deed
  refine de_of w fc e_gLea (fun v => v) ?_
  unfold P_W_plain
  rw [if_neg (by decide), if_neg (show ¬ J 3 = J 0 by decide), if_neg (show ¬ J 3 = J 1 by decide), if_neg (show ¬ J 3 = J 2 by decide), if_pos rfl, w.O]
theorem de_4 {a1 a2 : Int} {z3 : Int32} (i1 : int' a1) (hx : a2 = 0 ∨ a2 = 1) (w : WD Θ f c v h S) (hN : 2000 ≤ N) (c0 : 0 ≤ c) (c1 : c ≤ 2000) : DE Θ f c v h (P_W_deed Θ N h f (J 4) (J a1) (J a2) z3) := by
  have fc := x_cle i1 hx hN c0 c1 w.k
  unfold P_W_deed
  refine de_ofb (N := N) w fc e_gCle ?_
  unfold P_W_plain
  rw [if_neg (by decide), if_neg (show ¬ J 4 = J 0 by decide), if_neg (show ¬ J 4 = J 1 by decide), if_neg (show ¬ J 4 = J 2 by decide), if_neg (show ¬ J 4 = J 3 by decide), if_pos rfl, jn_eq]
  rcases hx with rfl | rfl
  · rw [if_neg (show ¬ J 0 = J 1 by decide)]
    dsimp only
    rw [w.O]
  · rw [if_pos (show J 1 = J 1 from rfl)]
    dsimp only
    rw [w.O]
theorem de_5 {a1 : Int} {z2 z3 : Int32} (hx : a1 = 0 ∨ a1 = 1) (w : WD Θ f c v h S) (hN : 2000 ≤ N) (c0 : 0 ≤ c) (c1 : c ≤ 2000) : DE Θ f c v h (P_W_deed Θ N h f (J 5) (J a1) z2 z3) := by
  have fc := x_gat hx hN c0 c1 w.k
  unfold P_W_deed
  refine de_ofb (N := N) w fc e_gGat ?_
  unfold P_W_plain
  rw [if_neg (by decide), if_neg (show ¬ J 5 = J 0 by decide), if_neg (show ¬ J 5 = J 1 by decide), if_neg (show ¬ J 5 = J 2 by decide), if_neg (show ¬ J 5 = J 3 by decide), if_neg (show ¬ J 5 = J 4 by decide), if_pos rfl, jn_eq]
  rcases hx with rfl | rfl
  · rw [if_neg (show ¬ J 0 = J 1 by decide)]
    dsimp only
    rw [w.O]
  · rw [if_pos (show J 1 = J 1 from rfl)]
    dsimp only
    rw [w.O]
theorem de_6 {a1 : Int} {z2 z3 : Int32} (i1 : int' a1) (w : WD Θ f c v h S) (hN : 2000 ≤ N) (c0 : 0 ≤ c) (c1 : c ≤ 2000) : DE Θ f c v h (P_W_deed Θ N h f (J 6) (J a1) z2 z3) := by
  have fc := x_pum i1 hN c0 c1 w.k
  unfold P_W_deed
  refine de_of w fc e_gPum (fun v => v + J 100) ?_
  unfold P_W_plain
  rw [if_neg (by decide), if_neg (show ¬ J 6 = J 0 by decide), if_neg (show ¬ J 6 = J 1 by decide), if_neg (show ¬ J 6 = J 2 by decide), if_neg (show ¬ J 6 = J 3 by decide), if_neg (show ¬ J 6 = J 4 by decide), if_neg (show ¬ J 6 = J 5 by decide), if_pos rfl, w.O]
theorem de_7 {a1 : Int} {z2 z3 : Int32} (i1 : int' a1) (w : WD Θ f c v h S) (hN : 2000 ≤ N) (c0 : 0 ≤ c) (c1 : c ≤ 2000) : DE Θ f c v h (P_W_deed Θ N h f (J 7) (J a1) z2 z3) := by
  have fc := x_pas i1 hN c0 c1 w.k
  unfold P_W_deed
  refine de_of w fc e_gPas (fun v => v) ?_
  unfold P_W_plain
  rw [if_neg (by decide), if_neg (show ¬ J 7 = J 0 by decide), if_neg (show ¬ J 7 = J 1 by decide), if_neg (show ¬ J 7 = J 2 by decide), if_neg (show ¬ J 7 = J 3 by decide), if_neg (show ¬ J 7 = J 4 by decide), if_neg (show ¬ J 7 = J 5 by decide), if_neg (show ¬ J 7 = J 6 by decide), if_pos rfl, w.O]
theorem de_8 {a1 : Int} {z2 z3 : Int32} (i1 : int' a1) (w : WD Θ f c v h S) (hN : 2000 ≤ N) (c0 : 0 ≤ c) (c1 : c ≤ 2000) : DE Θ f c v h (P_W_deed Θ N h f (J 8) (J a1) z2 z3) := by
  have fc := x_plb i1 hN c0 c1 w.k
  unfold P_W_deed
  refine de_of w fc e_gLay (fun v => v) ?_
  unfold P_W_plain
  rw [if_neg (by decide), if_neg (show ¬ J 8 = J 0 by decide), if_neg (show ¬ J 8 = J 1 by decide), if_neg (show ¬ J 8 = J 2 by decide), if_neg (show ¬ J 8 = J 3 by decide), if_neg (show ¬ J 8 = J 4 by decide), if_neg (show ¬ J 8 = J 5 by decide), if_neg (show ¬ J 8 = J 6 by decide), if_neg (show ¬ J 8 = J 7 by decide), if_pos rfl, w.O]
theorem de_9 {a1 : Int} {z2 z3 : Int32} (i1 : int' a1) (w : WD Θ f c v h S) (hN : 2000 ≤ N) (c0 : 0 ≤ c) (c1 : c ≤ 2000) : DE Θ f c v h (P_W_deed Θ N h f (J 9) (J a1) z2 z3) := by
  have fc := x_rmb i1 hN c0 c1 w.k
  unfold P_W_deed
  refine de_of w fc e_gTak (fun v => v) ?_
  unfold P_W_plain
  rw [if_neg (by decide), if_neg (show ¬ J 9 = J 0 by decide), if_neg (show ¬ J 9 = J 1 by decide), if_neg (show ¬ J 9 = J 2 by decide), if_neg (show ¬ J 9 = J 3 by decide), if_neg (show ¬ J 9 = J 4 by decide), if_neg (show ¬ J 9 = J 5 by decide), if_neg (show ¬ J 9 = J 6 by decide), if_neg (show ¬ J 9 = J 7 by decide), if_neg (show ¬ J 9 = J 8 by decide), if_pos rfl, w.O]
theorem de_10 {a1 a2 : Int} {z3 : Int32} (i1 : int' a1) (i2 : int' a2) (w : WD Θ f c v h S) (hN : 2000 ≤ N) (c0 : 0 ≤ c) (c1 : c ≤ 2000) : DE Θ f c v h (P_W_deed Θ N h f (J 10) (J a1) (J a2) z3) := by
  have fc := x_pay i1 i2 hN c0 c1 w.k
  unfold P_W_deed
  refine de_of w fc e_gPay (fun v => v) ?_
  unfold P_W_plain
  rw [if_neg (by decide), if_neg (show ¬ J 10 = J 0 by decide), if_neg (show ¬ J 10 = J 1 by decide), if_neg (show ¬ J 10 = J 2 by decide), if_neg (show ¬ J 10 = J 3 by decide), if_neg (show ¬ J 10 = J 4 by decide), if_neg (show ¬ J 10 = J 5 by decide), if_neg (show ¬ J 10 = J 6 by decide), if_neg (show ¬ J 10 = J 7 by decide), if_neg (show ¬ J 10 = J 8 by decide), if_neg (show ¬ J 10 = J 9 by decide), if_pos rfl, w.O]
end WD
