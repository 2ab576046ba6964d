/-! the line of a bill -/
def pc1 (p : Int × (Int → Int)) (a : Int) : Int × (Int → Int) := (p.1 + 1, up1 p.2 p.1 a)
def pI1 (p : Int × (Int → Int)) (x : Int) : Int × (Int → Int) := (p.1 + nd x, wdg p.2 p.1 x)
def bt1 (V : Int → Int) (w id : Int) (β : Int → Int) : Int × (Int → Int) := pI1 (pc1 (pI1 (pc1 (pI1 (pc1 (0, β) 35) id) 58) (fd V w 8)) 47) (fd V w 3)
def bt2 (V : Int → Int) (w : Int) (p : Int × (Int → Int)) : Int × (Int → Int) := if fd V w 6 = 0 then p else pI1 (pc1 p 33) (fd V w 6)
def bt3 (V : Int → Int) (w : Int) (p : Int × (Int → Int)) : Int × (Int → Int) := if fd V w 4 = -1 then p else pc1 p (if fd V w 2 ≤ V 1 then 126 else 95)
section BL9
variable {Θ : mW} {N f b m q v0 v y : Nat} {c k n t : Int} {S S' S2 : Nat → Int → Int} {h h0 h2 : mH} {bO : (Int → Int) → Prop} {D G : Nat → Int → Int} {V β g : Int → Int}
theorem e_put (hb : bOK Θ 9 m h) {t d : Int} (t0 : 0 ≤ t) (t1 : t < 80) : P_R_put Θ N (HR Θ m (r6 S g) h) m (J t) (J d) = some (J (t + 1), HR Θ m (r6 S (up1 g t d)) h) := by
  rw [s_put hb t0 t1, r6_up, r6_r6, r6_6]
theorem e_num (hN : 2000 ≤ N) (hb : bOK Θ 9 m h) {x t : Int} (h0 : 0 ≤ x) (h1 : x < 1000000000) (t0 : 0 ≤ t) (t1 : t < 60) : P_R_writesNumber Θ N (HR Θ m (r6 S g) h) m (J t) (J x) = some (J (t + nd x), HR Θ m (r6 S (wdg g t x)) h) := by
  obtain ⟨S', a1, a2, a3⟩ := s_writes (N := N) (S := r6 S g) hN hb h0 h1 t0 t1
  have e : S' = r6 S (wdg g t x) := by
    funext a
    by_cases z : a = 6
    · rw [z, a3, r6_6, r6_6]
    · rw [a2 a z, r6_o z, r6_o z]
  rw [a1, e]
theorem e_of (hb : bOK Θ 9 m h) {w i : Int} (h1 : 0 ≤ w) (h2 : w ≤ 7) (h3 : 0 ≤ i) (h4 : i ≤ 8) : P_R_of Θ N (HR Θ m (r6 S g) h) m (J w) (J i) = some (J (fd (S 1) w i), HR Θ m (r6 S g) h) := by
  rw [s_ofK hb h1 h2 h3 h4, r6_o (by decide)]
theorem e_doc (hb : bOK Θ 9 m h) (hV : OKV (S 1)) {w : Int} (h1 : 0 ≤ w) (h2 : w ≤ 7) : P_R_isDocked Θ N (HR Θ m (r6 S g) h) m (J w) = some (J (if fd (S 1) w 4 = -1 then 0 else 1), HR Θ m (r6 S g) h) := by
  have ok := hV.1 (8 + 9 * max 0 w + 4)
  have e : r6 S g 1 = S 1 := r6_o (by decide)
  rw [s_isDocked hb (by omega) h2 (by rw [e]; omega) (by rw [e]; omega), e, Int.max_eq_right h1]
  show some (J (if w ≠ -1 ∧ fd (S 1) w 4 ≠ -1 then 1 else 0), _) = _
  by_cases z : fd (S 1) w 4 = -1
  · rw [if_neg (fun u => u.2 z), if_pos z]
  · rw [if_pos ⟨by omega, z⟩, if_neg z]
def bilR (S : Nat → Int → Int) (w id : Int) : Int × (Int → Int) := bt3 (S 1) w (bt2 (S 1) w (bt1 (S 1) w id (S 6)))
theorem bt1_le {w id : Int} : 0 ≤ (bt1 V w id β).1 ∧ (bt1 V w id β).1 ≤ 30 := by
  unfold bt1 pI1 pc1
  dsimp only
  have a := nd_rng id
  have b := nd_rng (fd V w 8)
  have d := nd_rng (fd V w 3)
  omega
theorem bt2_le {w : Int} {p : Int × (Int → Int)} (h0 : 0 ≤ p.1) (h1 : p.1 ≤ 30) : 0 ≤ (bt2 V w p).1 ∧ (bt2 V w p).1 ≤ 40 := by
  unfold bt2 pI1 pc1
  have a := nd_rng (fd V w 6)
  split
  · omega
  · dsimp only; omega
theorem q_bill (hN : 2000 ≤ N) (hb : bOK Θ 9 m h) (I : In c (S 1)) (hc : c ≤ 2000) {id : Int} (hi : int' id) : P_R_describeBill Θ N (HR Θ m S h) m (J id) = if fnd (S 1) id (mny (S 1)) = -1 then some (J 0, HR Θ m (T13 S 1) h) else some (J (bilR S (fnd (S 1) id (mny (S 1))) id).1, HR Θ m (up2 (r6 (T13 S 0) (bilR S (fnd (S 1) id (mny (S 1))) id).2) 0 12 (bilR S (fnd (S 1) id (mny (S 1))) id).1) h) := by
  unfold P_R_describeBill
  have hV := Inv.ok I
  have h4 := I.h4
  rw [r_O hb, s_find hN hb hV hi.1 hi.2, bc_some, jn_eq]
  by_cases cc : fnd (S 1) id (mny (S 1)) = -1
  · rw [if_pos (show J (fnd (S 1) id (mny (S 1))) = J (-1) by rw [cc]), if_pos cc]
    dsimp only
    rw [r_O hb, s_goesT hb (Or.inl rfl), bc_some]
    rfl
  · have fl := fnd_lt I cc
    have fi := fnd_id (V := S 1) (id := id) _ cc
    rw [if_neg (show ¬ J (fnd (S 1) id (mny (S 1))) = J (-1) by rw [J_eq] <;> omega), if_neg cc]
    dsimp only
    generalize fnd (S 1) id (mny (S 1)) = w at fl fi
    have sh := I.sh w fl.1 fl.2
    unfold shOK at sh
    have h5 := I.h5
    have h7 := I.h7
    have bi := Inv.bill I fl.1 fl.2
    have n1 := nd_rng id
    have n2 := nd_rng (fd (S 1) w 8)
    have n3 := nd_rng (fd (S 1) w 3)
    have n4 := nd_rng (fd (S 1) w 6)
    have e1 : T13 S 0 = r6 (T13 S 0) (S 6) := by
      funext a
      unfold r6
      by_cases z : a = 6
      · rw [if_pos z, z, T13_o (by decide)]
      · rw [if_neg z]
    have eV : OKV (T13 S 0 1) := by rw [T13_1]; exact hV
    have t1 : T13 S 0 1 = S 1 := T13_1
    rw [r_O hb, s_goesT hb (Or.inr rfl), bc_some, if_neg (show ¬ J 1 = (0 : Int32) by decide), show (1 : Int) - 1 = 0 from rfl]
    have tail : ∀ p : Int × (Int → Int), 0 ≤ p.1 → p.1 ≤ 40 → (gO Θ (HR Θ m (r6 (T13 S 0) p.2) h) 9 m (bc (P_R_isDocked Θ N (HR Θ m (r6 (T13 S 0) p.2) h) m (J w)) (fun v30 h29 => (if v30 = 0 then (bo (wF Θ h29 9 m 12 (.int (J p.1))) (fun h31 => (bo (rI Θ h31 9 m 12) (fun v32 => (some (v32, h31)))))) else (gO Θ h29 9 m (bc (P_R_floats Θ N h29 m (J w)) (fun v34 h33 => (jn (fun (h36 : mH) (s37 : Int32) => (gO Θ h36 9 m (bc (P_R_put Θ N h36 m (J p.1) s37) (fun v39 h38 => (bo (wF Θ h38 9 m 12 (.int v39)) (fun h40 => (bo (rI Θ h40 9 m 12) (fun v41 => (some (v41, h40)))))))))) (fun j35 => (if v34 = 0 then (j35 h33 (J 95)) else (j35 h33 (J 126)))))))))))) = some (J (bt3 (S 1) w p).1, HR Θ m (up2 (r6 (T13 S 0) (bt3 (S 1) w p).2) 0 12 (bt3 (S 1) w p).1) h) := fun p p0 p1 => by
      rw [r_O hb, e_doc hb eV fl.1 (by omega), bc_some, t1]
      unfold bt3
      by_cases z : fd (S 1) w 4 = -1
      · rw [if_pos z, if_pos (show J 0 = (0 : Int32) from rfl), if_pos z, r_W12 hb, bo_some, r_I12 hb, bo_some, up2_eq]
      · have sf := s_floatsK (N := N) (S := r6 (T13 S 0) p.2) hb (by rw [r6_o (by decide)]; exact eV) (k := w) fl.1 (by omega)
        rw [r6_o (by decide), t1] at sf
        rw [if_neg z, if_neg (show ¬ J 1 = (0 : Int32) by decide), if_neg z, r_O hb, sf, bc_some, jn_eq]
        by_cases u : fd (S 1) w 2 ≤ S 1 1
        · rw [if_pos (Or.inr u), if_neg (show ¬ J 1 = (0 : Int32) by decide), if_pos u]
          dsimp only
          rw [r_O hb, e_put hb p0 (by omega), bc_some, r_W12 hb, bo_some, r_I12 hb, bo_some, up2_eq]
          rfl
        · rw [if_neg (show ¬ (fd (S 1) w 4 = -1 ∨ fd (S 1) w 2 ≤ S 1 1) by omega), if_pos (show J 0 = (0 : Int32) from rfl), if_neg u]
          dsimp only
          rw [r_O hb, e_put hb p0 (by omega), bc_some, r_W12 hb, bo_some, r_I12 hb, bo_some, up2_eq]
          rfl
    rw [e1, r_O hb, e_put hb (by omega) (by omega), bc_some, r_O hb, e_num hN hb (by omega) (by omega) (by omega) (by omega), bc_some, r_O hb, e_put hb (by omega) (by omega), bc_some, r_O hb, e_of hb fl.1 (by omega) (by omega) (by omega), t1, bc_some, r_O hb, e_num hN hb (by omega) (by omega) (by omega) (by omega), bc_some, r_O hb, e_put hb (by omega) (by omega), bc_some, r_O hb, e_of hb fl.1 (by omega) (by omega) (by omega), t1, bc_some, r_O hb, e_num hN hb (by omega) (by omega) (by omega) (by omega), bc_some, r_O hb, e_of hb fl.1 (by omega) (by omega) (by omega), t1, bc_some, jn_eq]
    have l1 := bt1_le (V := S 1) (w := w) (id := id) (β := S 6)
    have l2 := bt2_le (V := S 1) (w := w) (p := bt1 (S 1) w id (S 6)) l1.1 l1.2
    have tl := tail (bt2 (S 1) w (bt1 (S 1) w id (S 6))) l2.1 l2.2
    rw [r6_r6]
    refine Eq.trans ?_ tl
    by_cases z : fd (S 1) w 6 = 0
    · rw [if_pos (show J (fd (S 1) w 6) = (0 : Int32) by rw [z]; rfl)]
      unfold bt2
      rw [if_pos z]
      rfl
    · rw [if_neg (show ¬ J (fd (S 1) w 6) = (0 : Int32) by rw [J_eq0] <;> omega), r_O hb, e_put hb (by omega) (by omega), bc_some, r_O hb, e_of hb fl.1 (by omega) (by omega) (by omega), t1, bc_some, r_O hb, e_num hN hb (by omega) (by omega) (by omega) (by omega), bc_some]
      unfold bt2
      rw [if_neg z]
      rfl
end BL9
