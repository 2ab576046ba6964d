/-! the other changes keep what always holds -/
def addV (V : Int → Int) (l d t : Int) : Int → Int := fun j => if j = 4 then V 4 + 1 else if j = 5 then V 5 + 1 else if 8 + 9 * V 4 ≤ j ∧ j < 8 + 9 * V 4 + 9 then (if j = 8 + 9 * V 4 then V 5 else if j = 8 + 9 * V 4 + 1 then l else if j = 8 + 9 * V 4 + 2 then d else if j = 8 + 9 * V 4 + 3 then t else if j = 8 + 9 * V 4 + 4 then -1 else 0) else V j
def rmvV (V : Int → Int) (w : Int) : Int → Int := up1 (shf V (8 + 9 * w) 71) 4 (V 4 - 1)
def plcV (V : Int → Int) (w p : Int) : Int → Int := up1 (up1 V (8 + 9 * w + 4) p) (8 + 9 * w + 5) 0
def payV (V : Int → Int) (w c : Int) : Int → Int := up1 (up1 V (8 + 9 * w + 8) (fd V w 8 - c)) 7 (V 7 + c)
section KP
variable {G H M : Int} {V : Int → Int}
theorem addV_old {l d t k i : Int} (h4 : 0 ≤ V 4) (hk : 0 ≤ k) (hk2 : k < V 4) (hi : 0 ≤ i ∧ i ≤ 8) : fd (addV V l d t) k i = fd V k i := by
  unfold fd addV
  rw [if_neg (by omega), if_neg (by omega), if_neg (by omega)]
theorem addV_new {l d t i : Int} (h4 : 0 ≤ V 4) (hi : 0 ≤ i ∧ i ≤ 8) : fd (addV V l d t) (V 4) i = if i = 0 then V 5 else if i = 1 then l else if i = 2 then d else if i = 3 then t else if i = 4 then -1 else 0 := by
  unfold fd addV
  rw [if_neg (by omega), if_neg (by omega), if_pos (by omega)]
  by_cases c0 : i = 0
  · rw [if_pos c0, if_pos (by omega)]
  · rw [if_neg c0, if_neg (by omega)]
    by_cases c1 : i = 1
    · rw [if_pos c1, if_pos (by omega)]
    · rw [if_neg c1, if_neg (by omega)]
      by_cases c2 : i = 2
      · rw [if_pos c2, if_pos (by omega)]
      · rw [if_neg c2, if_neg (by omega)]
        by_cases c3 : i = 3
        · rw [if_pos c3, if_pos (by omega)]
        · rw [if_neg c3, if_neg (by omega)]
          by_cases c4 : i = 4
          · rw [if_pos c4, if_pos (by omega)]
          · rw [if_neg c4, if_neg (by omega)]
theorem addV_lo {l d t j : Int} (h4 : 0 ≤ V 4) (h1 : j < 8) (h2 : j ≠ 4) (h3 : j ≠ 5) : addV V l d t j = V j := by
  unfold addV
  rw [if_neg h2, if_neg h3, if_neg (by omega)]
theorem addV_hi {l d t j : Int} (h4 : V 4 ≤ 7) (h1 : 80 ≤ j) : addV V l d t j = V j := by
  unfold addV
  rw [if_neg (by omega), if_neg (by omega), if_neg (by omega)]
theorem Inv.add (I : Inv G H M V) (h8 : V 4 < 8) {l d t : Int} (hl : 5 ≤ l ∧ l ≤ 30) (hd : 5 ≤ d ∧ d ≤ 80) (ht : 0 ≤ t ∧ t ≤ 99) (hM : M + 1 ≤ 90000000) : Inv G H (M + 1) (addV V l d t) := by
  have h4 := I.h4
  have h5 := I.h5
  have h6 := I.v6
  have lo : ∀ j : Int, j < 8 → j ≠ 4 → j ≠ 5 → addV V l d t j = V j := fun j a b c => addV_lo h4.1 a b c
  have e4 : addV V l d t 4 = V 4 + 1 := rfl
  have e5 : addV V l d t 5 = V 5 + 1 := rfl
  have old := fun k i a b c => addV_old (V := V) (l := l) (d := d) (t := t) (k := k) (i := i) h4.1 a b c
  have new := fun i c => addV_new (V := V) (l := l) (d := d) (t := t) (i := i) h4.1 c
  refine ⟨⟨fun j => ?_, by rw [e4]; omega⟩, by rw [lo 0 (by omega) (by omega) (by omega)]; exact I.h0, by rw [lo 1 (by omega) (by omega) (by omega)]; exact I.h1, by rw [lo 2 (by omega) (by omega) (by omega)]; exact I.h2, by rw [lo 3 (by omega) (by omega) (by omega)]; exact I.h3, by rw [e5]; omega, ?_, ?_, ?_, ?_, ?_⟩
  · have := I.ok.1 j
    have := I.ok.1 4
    have := I.ok.1 5
    unfold addV
    repeat' split
    all_goals omega
  · rw [lo 7 (by omega) (by omega) (by omega), lo 6 (by omega) (by omega) (by omega)]
    have hm : mny (addV V l d t) = mny V + 1 := by unfold mny; rw [e4]; omega
    have hc : (mny V : Int) = V 4 := by unfold mny; omega
    rw [hm, smm, smm_ext (V := V) _ (fun k hk => old k 8 (by omega) (by omega) (by omega)), hc, new 8 (by omega)]
    simp
    exact I.h7
  · intro k a b
    rw [e4] at b
    unfold shOK
    rw [e5, lo 6 (by omega) (by omega) (by omega)]
    by_cases c : k = V 4
    · subst c
      rw [new 0 (by omega), new 1 (by omega), new 2 (by omega), new 3 (by omega), new 4 (by omega), new 5 (by omega), new 6 (by omega), new 7 (by omega), new 8 (by omega)]
      simp
      omega
    · have s := I.sh k a (by omega)
      unfold shOK at s
      rw [old k 0 a (by omega) (by omega), old k 1 a (by omega) (by omega), old k 2 a (by omega) (by omega), old k 3 a (by omega) (by omega), old k 4 a (by omega) (by omega), old k 5 a (by omega) (by omega), old k 6 a (by omega) (by omega), old k 7 a (by omega) (by omega), old k 8 a (by omega) (by omega)]
      omega
  · intro k j a b c
    rw [e4] at c
    unfold pr2
    rw [old k 0 a (by omega) (by omega), old k 1 a (by omega) (by omega), old k 4 a (by omega) (by omega)]
    by_cases e : j = V 4
    · subst e
      have s := I.sh k a (by omega)
      unfold shOK at s
      rw [new 0 (by omega), new 1 (by omega), new 4 (by omega)]
      simp
      omega
    · have s := I.pr k j a b (by omega)
      unfold pr2 at s
      rw [old j 0 (by omega) (by omega) (by omega), old j 1 (by omega) (by omega) (by omega), old j 4 (by omega) (by omega) (by omega)]
      exact s
  · intro p a b
    rw [addV_hi (by omega) (by omega)]
    exact I.bl p a b
  · rw [blk_ext (V := V) 60 (fun p hp => addV_hi (by omega) (by omega))]
    exact I.b20
theorem rmvV_fd {w k i : Int} (hw : 0 ≤ w) (hk : 0 ≤ k) (hk2 : k ≤ 6) (hi : 0 ≤ i ∧ i ≤ 8) : fd (rmvV V w) k i = if k < w then fd V k i else fd V (k + 1) i := by
  unfold rmvV
  rw [fd_up6 hk hi.1 (by omega)]
  unfold fd shf
  by_cases c : k < w
  · rw [if_pos c, if_neg (by omega)]
  · rw [if_neg c, if_pos (by omega), show 8 + 9 * k + i + 9 = 8 + 9 * (k + 1) + i by omega]
theorem rmvV_lo {w j : Int} (hw : 0 ≤ w) (h1 : j < 8) (h2 : j ≠ 4) : rmvV V w j = V j := by
  unfold rmvV
  rw [up1_nj h2]
  unfold shf
  rw [if_neg (by omega)]
theorem rmvV_hi {w j : Int} (h1 : 80 ≤ j) : rmvV V w j = V j := by
  unfold rmvV
  rw [up1_nj (by omega)]
  unfold shf
  rw [if_neg (by omega)]
theorem smm_rmv {w i : Int} (hw : 0 ≤ w) (hi : 0 ≤ i ∧ i ≤ 8) : ∀ n : Nat, (n : Int) ≤ 7 → smm (rmvV V w) i n = if (n : Int) ≤ w then smm V i n else smm V i (n + 1) - fd V w i
  | 0, _ => by simp [smm, hw]
  | n + 1, hn => by
    rw [smm, smm_rmv hw hi n (by omega), rmvV_fd hw (by omega) (by omega) hi]
    by_cases c : ((n + 1 : Nat) : Int) ≤ w
    · rw [if_pos (by omega), if_pos (by omega), if_pos c]
      rfl
    · rw [if_neg c]
      by_cases d : (n : Int) ≤ w
      · have e : w = n := by omega
        subst e
        rw [if_pos d, if_neg (by omega), smm, smm, show ((n + 1 : Nat) : Int) = (n : Int) + 1 by omega]
        omega
      · rw [if_neg d, if_neg (by omega), show smm V i (n + 1 + 1) = smm V i (n + 1) + fd V ((n + 1 : Nat) : Int) i from rfl, show ((n + 1 : Nat) : Int) = (n : Int) + 1 by omega]
        omega
theorem Inv.rmv (I : Inv G H M V) {w : Int} (h1 : 0 ≤ w) (h2 : w < V 4) (hb : fd V w 8 = 0) : Inv G H M (rmvV V w) := by
  have h4 := I.h4
  have lo : ∀ j : Int, j < 8 → j ≠ 4 → rmvV V w j = V j := fun j a b => rmvV_lo h1 a b
  have e4 : rmvV V w 4 = V 4 - 1 := up1_eq
  have ef := fun k i a b c => rmvV_fd (V := V) (w := w) (k := k) (i := i) h1 a b c
  refine ⟨⟨fun j => ?_, by rw [e4]; omega⟩, by rw [lo 0 (by omega) (by omega)]; exact I.h0, by rw [lo 1 (by omega) (by omega)]; exact I.h1, by rw [lo 2 (by omega) (by omega)]; exact I.h2, by rw [lo 3 (by omega) (by omega)]; exact I.h3, by rw [lo 5 (by omega) (by omega)]; exact I.h5, ?_, ?_, ?_, ?_, ?_⟩
  · have := I.ok.1 j
    have := I.ok.1 (j + 9)
    have := I.ok.1 4
    unfold rmvV shf
    rw [up1_at]
    repeat' split
    all_goals omega
  · rw [lo 7 (by omega) (by omega), lo 6 (by omega) (by omega)]
    have hm : mny (rmvV V w) = mny V - 1 := by unfold mny; rw [e4]; omega
    have hc : (mny V : Int) = V 4 := by unfold mny; omega
    rw [hm, smm_rmv h1 (by omega) _ (by omega)]
    have e9 : mny V - 1 + 1 = mny V := by omega
    split
    · rename_i c
      have ew : w = (mny V - 1 : Nat) := by omega
      have h7 := I.h7
      rw [← e9, smm, ← ew, hb] at h7
      omega
    · rw [e9, hb]
      have h7 := I.h7
      omega
  · intro k a b
    rw [e4] at b
    unfold shOK
    rw [lo 5 (by omega) (by omega), lo 6 (by omega) (by omega), ef k 0 a (by omega) (by omega), ef k 1 a (by omega) (by omega), ef k 2 a (by omega) (by omega), ef k 3 a (by omega) (by omega), ef k 4 a (by omega) (by omega), ef k 5 a (by omega) (by omega), ef k 6 a (by omega) (by omega), ef k 7 a (by omega) (by omega), ef k 8 a (by omega) (by omega)]
    by_cases c : k < w
    · have s := I.sh k a (by omega)
      simp only [if_pos c]
      exact s
    · have s := I.sh (k + 1) (by omega) (by omega)
      simp only [if_neg c]
      exact s
  · intro k j a b c
    rw [e4] at c
    unfold pr2
    rw [ef k 0 a (by omega) (by omega), ef k 1 a (by omega) (by omega), ef k 4 a (by omega) (by omega), ef j 0 (by omega) (by omega) (by omega), ef j 1 (by omega) (by omega) (by omega), ef j 4 (by omega) (by omega) (by omega)]
    by_cases d : k < w
    · by_cases e : j < w
      · have s := I.pr k j a b (by omega)
        simp only [if_pos d, if_pos e]
        exact s
      · have s := I.pr k (j + 1) a (by omega) (by omega)
        simp only [if_pos d, if_neg e]
        exact s
    · have s := I.pr (k + 1) (j + 1) (by omega) (by omega) (by omega)
      simp only [if_neg d, if_neg (show ¬ j < w by omega)]
      exact s
  · intro p a b
    rw [rmvV_hi (by omega)]
    exact I.bl p a b
  · rw [blk_ext (V := V) 60 (fun p hp => rmvV_hi (by omega))]
    exact I.b20
theorem plcV_fd {w p k i : Int} (hi : 0 ≤ i ∧ i ≤ 8) : fd (plcV V w p) k i = if k = w ∧ i = 5 then 0 else if k = w ∧ i = 4 then p else fd V k i := by
  unfold plcV
  rw [fd_up (by omega) hi, fd_up (by omega) hi]
theorem plcV_lo {w p j : Int} (hw : 0 ≤ w) (h1 : j < 8) : plcV V w p j = V j := by
  unfold plcV
  rw [up1_nj (by omega), up1_nj (by omega)]
theorem Inv.plc (I : Inv G H M V) {w p : Int} (h1 : 0 ≤ w) (h2 : w < V 4) (hp : p = -1 ∨ (0 ≤ p ∧ p + fd V w 1 ≤ 60 ∧ ∀ k : Int, 0 ≤ k → k < V 4 → k ≠ w → fd V k 4 ≠ -1 → fd V k 4 + fd V k 1 ≤ p ∨ p + fd V w 1 ≤ fd V k 4)) : Inv G H M (plcV V w p) := by
  have h4 := I.h4
  have lo : ∀ j : Int, j < 8 → plcV V w p j = V j := fun j a => plcV_lo h1 a
  have ef := fun k i c => plcV_fd (V := V) (w := w) (p := p) (k := k) (i := i) c
  have sw := I.sh w h1 h2
  unfold shOK at sw
  refine ⟨(I.ok.up (by omega) (by omega) (by omega)).up (by omega) (by omega) (by omega), by rw [lo 0 (by omega)]; exact I.h0, by rw [lo 1 (by omega)]; exact I.h1, by rw [lo 2 (by omega)]; exact I.h2, by rw [lo 3 (by omega)]; exact I.h3, by rw [lo 5 (by omega)]; exact I.h5, ?_, ?_, ?_, ?_, ?_⟩
  · have hm : mny (plcV V w p) = mny V := by unfold mny; rw [lo 4 (by omega)]
    rw [lo 7 (by omega), lo 6 (by omega), hm, smm_ext (V := V) _ (fun k hk => by rw [ef k 8 (by omega)]; simp)]
    exact I.h7
  · intro k a b
    rw [lo 4 (by omega)] at b
    have s := I.sh k a b
    unfold shOK at s ⊢
    rw [lo 5 (by omega), lo 6 (by omega), ef k 0 (by omega), ef k 1 (by omega), ef k 2 (by omega), ef k 3 (by omega), ef k 4 (by omega), ef k 5 (by omega), ef k 6 (by omega), ef k 7 (by omega), ef k 8 (by omega)]
    by_cases c : k = w
    · subst c
      simp
      omega
    · simp only [c, false_and, if_false]
      exact s
  · intro k j a b c
    rw [lo 4 (by omega)] at c
    have s := I.pr k j a b c
    unfold pr2 at s ⊢
    rw [ef k 0 (by omega), ef k 1 (by omega), ef k 4 (by omega), ef j 0 (by omega), ef j 1 (by omega), ef j 4 (by omega)]
    simp
    refine ⟨s.1, fun x y => ?_⟩
    by_cases d : k = w
    · have e : ¬ j = w := by omega
      rw [if_neg e] at y ⊢
      rw [if_pos d] at x ⊢
      rcases hp with hp | ⟨p1, p2, p3⟩
      · omega
      · have := p3 j (by omega) c e y
        rw [d]
        omega
    · rw [if_neg d] at x ⊢
      by_cases e : j = w
      · rw [if_pos e] at y ⊢
        rcases hp with hp | ⟨p1, p2, p3⟩
        · omega
        · have := p3 k a (by omega) d x
          rw [e]
          omega
      · rw [if_neg e] at y ⊢
        exact s.2 x y
  · intro q a b
    unfold plcV
    rw [up1_nj (by omega), up1_nj (by omega)]
    exact I.bl q a b
  · unfold plcV
    rw [blk_row (by omega) (by omega), blk_row (by omega) (by omega)]
    exact I.b20
theorem payV_fd {w c k i : Int} (hk : 0 ≤ k) (hi : 0 ≤ i ∧ i ≤ 8) : fd (payV V w c) k i = if k = w ∧ i = 8 then fd V w 8 - c else fd V k i := by
  unfold payV
  rw [fd_up6 hk hi.1 (by omega), fd_up (by omega) hi]
theorem payV_lo {w c j : Int} (hw : 0 ≤ w) (h1 : j < 7) : payV V w c j = V j := by
  unfold payV
  rw [up1_nj (by omega), up1_nj (by omega)]
theorem Inv.pay (I : Inv G H M V) {w c : Int} (h1 : 0 ≤ w) (h2 : w < V 4) (h3 : 0 ≤ c) (h4 : c ≤ fd V w 8) (hG : G ≤ 90000000) : Inv G H M (payV V w c) := by
  have h4' := I.h4
  have h7 := I.h7
  have h8 := I.bill h1 h2
  have lo : ∀ j : Int, j < 7 → payV V w c j = V j := fun j a => payV_lo h1 a
  have e7 : payV V w c 7 = V 7 + c := up1_eq
  have ef := fun k i a b => payV_fd (V := V) (w := w) (c := c) (k := k) (i := i) a b
  have s0 := smm_0 (V := V) (i := 8) (mny V) (fun k hk => (I.sh k (by omega) (by unfold mny at hk; omega)).2.2.2.2.2.2.2.2)
  have s1 := s0.2 w.toNat (by unfold mny; omega)
  rw [Int.toNat_of_nonneg h1] at s1
  refine ⟨(I.ok.up (by omega) (by omega) (by omega)).up (by omega) (by omega) (by omega), by rw [lo 0 (by omega)]; exact I.h0, by rw [lo 1 (by omega)]; exact I.h1, by rw [lo 2 (by omega)]; exact I.h2, by rw [lo 3 (by omega)]; exact I.h3, by rw [lo 5 (by omega)]; exact I.h5, ?_, ?_, ?_, ?_, ?_⟩
  · have hm : mny (payV V w c) = mny V := by unfold mny; rw [lo 4 (by omega)]
    have hs : smm (payV V w c) 8 (mny V) = smm V 8 (mny V) - c := by
      rw [smm_ext (V := up1 V (8 + 9 * w + 8) (fd V w 8 - c)) _ (fun k hk => by unfold payV; rw [fd_up6 (by omega) (by omega) (by omega)]), smm_up _ h1 (by unfold mny; omega)]
      omega
    rw [e7, lo 6 (by omega), hm, hs]
    omega
  · intro k a b
    rw [lo 4 (by omega)] at b
    have s := I.sh k a b
    unfold shOK at s ⊢
    rw [lo 5 (by omega), lo 6 (by omega), ef k 0 a (by omega), ef k 1 a (by omega), ef k 2 a (by omega), ef k 3 a (by omega), ef k 4 a (by omega), ef k 5 a (by omega), ef k 6 a (by omega), ef k 7 a (by omega), ef k 8 a (by omega)]
    by_cases d : k = w
    · subst d
      simp
      omega
    · simp only [d, false_and, if_false]
      exact s
  · intro k j a b d
    rw [lo 4 (by omega)] at d
    have s := I.pr k j a b d
    unfold pr2 at s ⊢
    rw [ef k 0 a (by omega), ef k 1 a (by omega), ef k 4 a (by omega), ef j 0 (by omega) (by omega), ef j 1 (by omega) (by omega), ef j 4 (by omega) (by omega)]
    simpa using s
  · intro q a b
    unfold payV
    rw [up1_nj (by omega), up1_nj (by omega)]
    exact I.bl q a b
  · unfold payV
    rw [blk_low (by omega), blk_row (by omega) (by omega)]
    exact I.b20
theorem Inv.blkS (I : Inv G H M V) {p v : Int} (h1 : 0 ≤ p) (h2 : p < 60) (hv : v = 0 ∨ v = 1) (h3 : blk V 60 + (v - V (80 + p)) ≤ 20) : Inv G H M (up1 V (80 + p) v) := by
  have h4 := I.h4
  have lo : ∀ j : Int, j < 80 → up1 V (80 + p) v j = V j := fun j a => up1_nj (by omega)
  have ef : ∀ k i : Int, k < V 4 → i ≤ 8 → fd (up1 V (80 + p) v) k i = fd V k i := fun k i a b => by unfold fd; rw [lo _ (by omega)]
  refine ⟨I.ok.up (by omega) (by omega) (by omega), by rw [lo 0 (by omega)]; exact I.h0, by rw [lo 1 (by omega)]; exact I.h1, by rw [lo 2 (by omega)]; exact I.h2, by rw [lo 3 (by omega)]; exact I.h3, by rw [lo 5 (by omega)]; exact I.h5, ?_, ?_, ?_, ?_, ?_⟩
  · have hm : mny (up1 V (80 + p) v) = mny V := by unfold mny; rw [lo 4 (by omega)]
    rw [lo 7 (by omega), lo 6 (by omega), hm, smm_ext (V := V) _ (fun k hk => ef k 8 (by unfold mny at hk; omega) (by omega))]
    exact I.h7
  · intro k a b
    rw [lo 4 (by omega)] at b
    have s := I.sh k a b
    unfold shOK at s ⊢
    rw [lo 5 (by omega), lo 6 (by omega), ef k 0 b (by omega), ef k 1 b (by omega), ef k 2 b (by omega), ef k 3 b (by omega), ef k 4 b (by omega), ef k 5 b (by omega), ef k 6 b (by omega), ef k 7 b (by omega), ef k 8 b (by omega)]
    exact s
  · intro k j a b d
    rw [lo 4 (by omega)] at d
    have s := I.pr k j a b d
    unfold pr2 at s ⊢
    rw [ef k 0 (by omega) (by omega), ef k 1 (by omega) (by omega), ef k 4 (by omega) (by omega), ef j 0 d (by omega), ef j 1 d (by omega), ef j 4 d (by omega)]
    exact s
  · intro q a b
    rw [up1_at]
    split
    · exact hv
    · exact I.bl q a b
  · rw [blk_up 60 h1 (by omega)]
    exact h3
end KP
