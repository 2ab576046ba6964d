/-! the reference's packing -/
def wR (V : Int → Int) (k : Int) : Int := if k < V 4 ∧ fd V k 4 = -1 ∧ fd V k 2 ≤ V 1 - 2 then fd V k 1 else 61
section R8
variable {Θ : mW} {N m : Nat} {S : Nat → Int → Int} {V : Int → Int} {h : mH} {G H M : Int}
theorem wR_rng (I : Inv G H M V) {k : Int} (h1 : 0 ≤ k) : 0 ≤ wR V k ∧ wR V k ≤ 61 := by
  unfold wR
  split
  · rename_i c
    have sh := I.sh k h1 c.1
    unfold shOK at sh
    omega
  · omega
theorem wR_list (I : Inv G H M V) : ∀ n : Nat, (wl (wR V) n 0).filter (fun w => decide (w ≤ 60)) = wlist V (min n (mny V))
  | 0 => by
    rw [show min 0 (mny V) = 0 by omega]
    rfl
  | n + 1 => by
    have h4 := I.h4
    rw [wl_snoc, List.filter_append, wR_list I n, show (0 : Int) + n = n by omega]
    by_cases c : n < mny V
    · have sh := I.sh n (by omega) (by unfold mny at c; omega)
      unfold shOK at sh
      rw [show min (n + 1) (mny V) = min n (mny V) + 1 by omega, show min n (mny V) = n by omega, wlist]
      unfold wR
      have hn : (n : Int) < V 4 := by unfold mny at c; omega
      by_cases d : fd V n 4 = -1 ∧ fd V n 2 + 2 ≤ V 1
      · rw [if_pos ⟨hn, d.1, by omega⟩, if_pos d]
        have : decide (fd V n 1 ≤ 60) = true := by rw [decide_eq_true_eq]; omega
        simp [this]
      · rw [if_neg (fun x => d ⟨x.2.1, by omega⟩), if_neg d]
        simp
    · rw [show min (n + 1) (mny V) = min n (mny V) by omega]
      unfold wR
      rw [if_neg (fun x => c (by unfold mny; omega))]
      simp
theorem wR_wlist (I : Inv G H M V) : (wl (wR V) 8 0).filter (fun w => decide (w ≤ 60)) = wlist V (mny V) := by
  have h4 := I.h4
  rw [wR_list I 8, show min 8 (mny V) = mny V by unfold mny; omega]
theorem s_metres_L (hb : bOK Θ 9 m h) (hV : OKV (S 1)) {s : Nat} (hs : s < 256) {K : mH → Int32 → Option (Int32 × mH)} : ∀ (r j q : Nat), j + r = 8 → r < q → P_R_metres_4 Θ N K m (J s) q (HR Θ m S h) (J (MT (wR (S 1)) (tb s) j)) (J j) = K (HR Θ m S h) (J (MT (wR (S 1)) (tb s) 8)) := by
  intro r
  have hm := hV.2
  have v1 := hV.1 1
  induction r with
  | zero =>
    intro j q hj hq
    obtain ⟨q, rfl⟩ : ∃ n', q = n' + 1 := ⟨q - 1, by omega⟩
    rw [E_R_metres_4, B_R_metres_4, if_pos (by rw [J_le] <;> omega), show j = 8 by omega]
  | succ r ih =>
    intro j q hj hq
    obtain ⟨q, rfl⟩ : ∃ n', q = n' + 1 := ⟨q - 1, by omega⟩
    have ih' := ih (j + 1) q (by omega) (by omega)
    have b2 := hV.fd j 2
    have e1 : (j : Int) + 1 = ((j + 1 : Nat) : Int) := by omega
    rw [MT] at ih'
    rw [E_R_metres_4, B_R_metres_4, if_neg (by rw [J_le] <;> omega), jn_eq, J_bit' hs (by omega), ← ih']
    by_cases w : (j : Int) < S 1 4 ∧ fd (S 1) j 4 = -1 ∧ fd (S 1) j 2 ≤ S 1 1 - 2
    · have ew : wR (S 1) j = fd (S 1) j 1 := by unfold wR; rw [if_pos w]
      have nw : ¬ (fd (S 1) j 4 ≠ -1) := by simpa using w.2.1
      by_cases c : tb s j = true
      · rw [if_pos c, if_pos c, if_pos rfl]
        dsimp only
        rw [r_A0 hb, bo_some, r_a1 hb (by omega) (by omega), bo_some, jn_eq, jn_eq, if_neg (show ¬ J (S 1 4) ≤ J j by rw [J_le] <;> omega), r_O hb, s_docK hb hV (by omega) (by omega), bc_some, if_neg nw, if_pos (show J 0 = (0 : Int32) from rfl), r_O hb, s_ofK hb (by omega) (by omega) (by omega) (by omega), bc_some, r_A0 hb, bo_some, r_a1 hb (by omega) (by omega), bo_some, J_sub, if_neg (show ¬ J (S 1 1 - 2) < J (fd (S 1) j 2) by rw [J_lt] <;> omega)]
        dsimp only
        rw [jn_eq, if_neg (show ¬ J 1 = (0 : Int32) by decide), if_neg (show ¬ J 1 = (0 : Int32) by decide), r_O hb, s_ofK hb (by omega) (by omega) (by omega) (by omega), bc_some]
        dsimp only
        rw [J_add, J_add, e1, ew]
      · rw [if_neg c, if_neg c, if_neg (show ¬ J 0 = J 1 by decide)]
        dsimp only
        rw [r_A0 hb, bo_some, r_a1 hb (by omega) (by omega), bo_some, jn_eq, jn_eq, if_neg (show ¬ J (S 1 4) ≤ J j by rw [J_le] <;> omega), r_O hb, s_docK hb hV (by omega) (by omega), bc_some, if_neg nw, if_pos (show J 0 = (0 : Int32) from rfl), r_O hb, s_ofK hb (by omega) (by omega) (by omega) (by omega), bc_some, r_A0 hb, bo_some, r_a1 hb (by omega) (by omega), bo_some, J_sub, if_neg (show ¬ J (S 1 1 - 2) < J (fd (S 1) j 2) by rw [J_lt] <;> omega)]
        dsimp only
        rw [jn_eq, if_pos (show J 0 = (0 : Int32) from rfl)]
        dsimp only
        rw [J_add, J_add, e1]
    · have ew : wR (S 1) j = 61 := by unfold wR; rw [if_neg w]
      by_cases d : S 1 4 ≤ j
      · by_cases c : tb s j = true
        · rw [if_pos c, if_pos c, if_pos rfl]
          dsimp only
          rw [r_A0 hb, bo_some, r_a1 hb (by omega) (by omega), bo_some, jn_eq, jn_eq, if_pos (show J (S 1 4) ≤ J j by rw [J_le] <;> omega)]
          dsimp only
          rw [jn_eq, if_neg (show ¬ J 1 = (0 : Int32) by decide), if_pos (show J 0 = (0 : Int32) from rfl)]
          dsimp only
          rw [J_add, J_add, e1, ew]
        · rw [if_neg c, if_neg c, if_neg (show ¬ J 0 = J 1 by decide)]
          dsimp only
          rw [r_A0 hb, bo_some, r_a1 hb (by omega) (by omega), bo_some, jn_eq, jn_eq, if_pos (show J (S 1 4) ≤ J j by rw [J_le] <;> omega)]
          dsimp only
          rw [jn_eq, if_pos (show J 0 = (0 : Int32) from rfl)]
          dsimp only
          rw [J_add, J_add, e1]
      · by_cases f : fd (S 1) j 4 = -1
        · have nf : ¬ (fd (S 1) j 4 ≠ -1) := by simpa using f
          by_cases c : tb s j = true
          · rw [if_pos c, if_pos c, if_pos rfl]
            dsimp only
            rw [r_A0 hb, bo_some, r_a1 hb (by omega) (by omega), bo_some, jn_eq, jn_eq, if_neg (show ¬ J (S 1 4) ≤ J j by rw [J_le] <;> omega), r_O hb, s_docK hb hV (by omega) (by omega), bc_some, if_neg nf, if_pos (show J 0 = (0 : Int32) from rfl), r_O hb, s_ofK hb (by omega) (by omega) (by omega) (by omega), bc_some, r_A0 hb, bo_some, r_a1 hb (by omega) (by omega), bo_some, J_sub, if_pos (show J (S 1 1 - 2) < J (fd (S 1) j 2) by rw [J_lt] <;> omega)]
            dsimp only
            rw [jn_eq, if_neg (show ¬ J 1 = (0 : Int32) by decide), if_pos (show J 0 = (0 : Int32) from rfl)]
            dsimp only
            rw [J_add, J_add, e1, ew]
          · rw [if_neg c, if_neg c, if_neg (show ¬ J 0 = J 1 by decide)]
            dsimp only
            rw [r_A0 hb, bo_some, r_a1 hb (by omega) (by omega), bo_some, jn_eq, jn_eq, if_neg (show ¬ J (S 1 4) ≤ J j by rw [J_le] <;> omega), r_O hb, s_docK hb hV (by omega) (by omega), bc_some, if_neg nf, if_pos (show J 0 = (0 : Int32) from rfl), r_O hb, s_ofK hb (by omega) (by omega) (by omega) (by omega), bc_some, r_A0 hb, bo_some, r_a1 hb (by omega) (by omega), bo_some, J_sub, if_pos (show J (S 1 1 - 2) < J (fd (S 1) j 2) by rw [J_lt] <;> omega)]
            dsimp only
            rw [jn_eq, if_pos (show J 0 = (0 : Int32) from rfl)]
            dsimp only
            rw [J_add, J_add, e1]
        · by_cases c : tb s j = true
          · rw [if_pos c, if_pos c, if_pos rfl]
            dsimp only
            rw [r_A0 hb, bo_some, r_a1 hb (by omega) (by omega), bo_some, jn_eq, jn_eq, if_neg (show ¬ J (S 1 4) ≤ J j by rw [J_le] <;> omega), r_O hb, s_docK hb hV (by omega) (by omega), bc_some, if_pos f, if_neg (show ¬ J 1 = (0 : Int32) by decide)]
            dsimp only
            rw [jn_eq, if_neg (show ¬ J 1 = (0 : Int32) by decide), if_pos (show J 0 = (0 : Int32) from rfl)]
            dsimp only
            rw [J_add, J_add, e1, ew]
          · rw [if_neg c, if_neg c, if_neg (show ¬ J 0 = J 1 by decide)]
            dsimp only
            rw [r_A0 hb, bo_some, r_a1 hb (by omega) (by omega), bo_some, jn_eq, jn_eq, if_neg (show ¬ J (S 1 4) ≤ J j by rw [J_le] <;> omega), r_O hb, s_docK hb hV (by omega) (by omega), bc_some, if_pos f, if_neg (show ¬ J 1 = (0 : Int32) by decide)]
            dsimp only
            rw [jn_eq, if_pos (show J 0 = (0 : Int32) from rfl)]
            dsimp only
            rw [J_add, J_add, e1]
theorem s_metres (hN : 2000 ≤ N) (hb : bOK Θ 9 m h) (hV : OKV (S 1)) {s : Nat} (hs : s < 256) : P_R_metres Θ N (HR Θ m S h) m (J s) = some (J (MT (wR (S 1)) (tb s) 8), HR Θ m S h) := by
  unfold P_R_metres
  exact s_metres_L (K := fun h22 u23 => some (u23, h22)) hb hV hs 8 0 N (by omega) (by omega)
theorem rup2_self {i : Nat} {k : Int} : up2 S i k (S i k) = S := by
  funext a j
  rw [up2_at]
  split
  · rename_i c; rw [c.1, c.2]
  · rfl
theorem s_tg_L (hN : 2000 ≤ N) (hb : bOK Θ 9 m h) (I : Inv G H M V) {s : Nat} (hs : s < 256) {x : Int} (hx : 0 ≤ x ∧ x ≤ 60) {K : mH → Option (Unit × mH)} : ∀ (p q : Nat) (S : Nat → Int → Int), S 1 = V → (∀ u : Nat, u < 256 → S 7 u = 0 ∨ S 7 u = 1) → p &&& s = p → p < q → ∃ v : Int, P_R_takesGap_14 Θ N K m (J x) (J s) q (HR Θ m S h) (J p) = K (HR Θ m (up2 S 7 s v) h) ∧ (v = 0 ∨ v = 1) ∧ (v = 1 ↔ S 7 s = 1 ∨ hasF (mtf (wR V) 8) (S 7) x s p) := by
  intro p
  induction p using Nat.strongRecOn with
  | ind p ih =>
    intro q S hV h7 hp hq
    obtain ⟨q, rfl⟩ : ∃ n', q = n' + 1 := ⟨q - 1, by omega⟩
    have hps : p ≤ s := by rw [← hp]; exact Nat.and_le_right
    have b7 := h7 s hs
    rw [E_R_takesGap_14, B_R_takesGap_14]
    by_cases c : p = 0
    · rw [if_pos (by rw [c]; decide)]
      exact ⟨S 7 s, by rw [rup2_self], b7, Or.inl, fun z => z.elim id (fun z => absurd (c ▸ z) hasF_0)⟩
    · rw [if_neg (by rw [J_0, J_le] <;> omega), r_A14 hb, bo_some, r_a7 hb (by omega) (by omega), bo_some]
      by_cases d : S 7 s = 1
      · rw [if_neg (by rw [d]; decide)]
        exact ⟨S 7 s, by rw [rup2_self], b7, Or.inl, fun _ => d⟩
      · have d0 : S 7 s = 0 := by omega
        have hx8 : s ^^^ p < 256 := Nat.xor_lt_two_pow (n := 8) (by omega) (by omega)
        have b7x := h7 (s ^^^ p) hx8
        have hn : (p - 1) &&& s ≤ p - 1 := Nat.and_le_left
        have hn2 : ((p - 1) &&& s) &&& s = (p - 1) &&& s := by rw [Nat.and_assoc, Nat.and_self]
        have e1 : (J p - J 1) &&& J s = J ((((p - 1) &&& s : Nat)) : Int) := by rw [J_sub, ← J_and, show (p : Int) - 1 = ((p - 1 : Nat) : Int) by omega]
        have w8 := MT_60 (f := wR V) (σ := tb p) (B := 61) (by omega) 8 (fun k _ => wR_rng I (by omega))
        have em : mtf (wR V) 8 p = MT (wR V) (tb p) 8 := by unfold mtf; rw [Int.toNat_natCast]
        have fin : ∀ y : Int, (y = 0 ∨ y = 1) → (y = 1 ↔ MT (wR V) (tb p) 8 ≤ x ∧ S 7 ((s ^^^ p : Nat) : Int) = 1) → ∃ v : Int, P_R_takesGap_14 Θ N K m (J x) (J s) q (HR Θ m (up2 S 7 s y) h) (J ((((p - 1) &&& s : Nat)) : Int)) = K (HR Θ m (up2 S 7 s v) h) ∧ (v = 0 ∨ v = 1) ∧ (v = 1 ↔ S 7 s = 1 ∨ hasF (mtf (wR V) 8) (S 7) x s p) := by
          intro y y1 y2
          obtain ⟨v, i1, i2, i3⟩ := ih ((p - 1) &&& s) (by omega) q (up2 S 7 s y) (by rw [up2_row (by omega)]; exact hV) (fun u hu => by
            rw [up2_at]
            split
            · exact y1
            · exact h7 u hu) hn2 (by omega)
          rw [up2_2] at i1
          rw [up2_eq] at i3
          have hx1 : hasF (mtf (wR V) 8) (up2 S 7 s y 7) x s ((p - 1) &&& s) ↔ hasF (mtf (wR V) 8) (S 7) x s ((p - 1) &&& s) := ⟨hasF_ext (fun u hu => up2_nj (by omega)), hasF_ext (fun u hu => (up2_nj (by omega)).symm)⟩
          refine ⟨v, i1, i2, i3.trans ?_⟩
          by_cases z : MT (wR V) (tb p) 8 ≤ x ∧ S 7 ((s ^^^ p : Nat) : Int) = 1
          · exact ⟨fun _ => Or.inr (hasF_p (by omega) hp (by rw [em]; exact z.1) z.2), fun _ => Or.inl (y2.mpr z)⟩
          · rw [hasF_n hp (by rw [em]; exact z), ← hx1]
            exact or_congr ⟨fun q => absurd (y2.mp q) z, fun q => absurd q d⟩ Iff.rfl
        rw [if_pos (by rw [d0]; rfl), bo_some, bo_some, J_xor, r_a7 hb (by omega) (by omega), bo_some, jn_eq, jn_eq]
        by_cases f : S 7 ((s ^^^ p : Nat) : Int) = 1
        · rw [if_neg (by rw [f]; decide), r_O hb, s_metres hN hb (by rw [hV]; exact I.ok) (by omega), bc_some, hV]
          by_cases o : MT (wR V) (tb p) 8 ≤ x
          · rw [if_neg (by rw [J_lt] <;> omega)]
            dsimp only
            rw [r_w7 hb (by omega) (by omega) (by omega), bo_some, e1]
            exact fin 1 (Or.inr rfl) ⟨fun _ => ⟨o, f⟩, fun _ => rfl⟩
          · rw [if_pos (by rw [J_lt] <;> omega)]
            dsimp only
            rw [r_w7 hb (by omega) (by omega) (by omega), bo_some, e1]
            exact fin 0 (Or.inl rfl) ⟨fun z => by omega, fun z => absurd z.1 o⟩
        · rw [if_pos (by rw [show S 7 ((s ^^^ p : Nat) : Int) = 0 by omega]; rfl)]
          dsimp only
          rw [r_w7 hb (by omega) (by omega) (by omega), bo_some, e1]
          exact fin 0 (Or.inl rfl) ⟨fun z => by omega, fun z => absurd z.2 f⟩
theorem s_tgO_L (hN : 2000 ≤ N) (hb : bOK Θ 9 m h) (I : Inv G H M V) {x : Int} (hx : 0 ≤ x ∧ x ≤ 60) {S0 : Nat → Int → Int} (hV : S0 1 = V) (h7 : ∀ u : Nat, u < 256 → S0 7 u = 0 ∨ S0 7 u = 1) {K : mH → Option (Unit × mH)} : ∀ (v q : Nat) (S : Nat → Int → Int), v < 256 → v < q → (∀ a : Nat, a ≠ 7 → S a = S0 a) → (∀ s : Nat, s ≤ v → S 7 s = S0 7 s) → (∀ s : Nat, v < s → s < 256 → nxt (mtf (wR V) 8) (S0 7) (S 7) x s) → ∃ S', P_R_takesGap_8 Θ N K m (J x) q (HR Θ m S h) (J v) = K (HR Θ m S' h) ∧ (∀ a : Nat, a ≠ 7 → S' a = S0 a) ∧ S' 7 0 = S0 7 0 ∧ (∀ s : Nat, 0 < s → s < 256 → nxt (mtf (wR V) 8) (S0 7) (S' 7) x s) := by
  intro v
  induction v with
  | zero =>
    intro q S hv hq h1 h2 h5
    obtain ⟨q, rfl⟩ : ∃ n', q = n' + 1 := ⟨q - 1, by omega⟩
    rw [E_R_takesGap_8, B_R_takesGap_8, if_pos (by decide)]
    exact ⟨S, rfl, h1, h2 0 (Nat.le_refl _), h5⟩
  | succ v ih =>
    intro q S hv hq h1 h2 h5
    obtain ⟨q, rfl⟩ : ∃ n', q = n' + 1 := ⟨q - 1, by omega⟩
    have em : J ((v + 1 : Nat) : Int) + J (-1) = J (v : Int) := by rw [J_add, show ((v + 1 : Nat) : Int) + -1 = v by omega]
    obtain ⟨w, a1, a2, a3⟩ := s_tg_L (h := h) (K := fun h16 => P_R_takesGap_8 Θ N K m (J x) q h16 (J ((v + 1 : Nat) : Int) + J (-1))) hN hb I (s := v + 1) (by omega) hx (v + 1) N S (by rw [h1 1 (by omega)]; exact hV) (fun u hu => by
      by_cases c : u ≤ v + 1
      · rw [h2 u c]; exact h7 u hu
      · exact (h5 u (by omega) hu).1) (Nat.and_self _) (by omega)
    rw [E_R_takesGap_8, B_R_takesGap_8, if_neg (by rw [J_0, J_le] <;> omega)]
    obtain ⟨S', b1, b2, b3, b4⟩ := ih q (up2 S 7 ((v + 1 : Nat) : Int) w) (by omega) (by omega) (fun a ha => by rw [up2_row ha]; exact h1 a ha) (fun s hs => by rw [up2_nj (by omega)]; exact h2 s (by omega)) (fun s s1 s2 => by
      unfold nxt
      by_cases c : s = v + 1
      · subst c
        rw [up2_eq]
        refine ⟨a2, a3.trans ?_⟩
        rw [h2 _ (Nat.le_refl _)]
        exact or_congr Iff.rfl ⟨hasF_ext (fun u hu => h2 u (by omega)), hasF_ext (fun u hu => (h2 u (by omega)).symm)⟩
      · rw [up2_nj (by omega)]
        exact h5 s (by omega) s2)
    refine ⟨S', ?_, b2, b3, b4⟩
    refine (show _ = _ from a1).trans ?_
    rw [em]
    exact b1
theorem s_takesGap (hN : 2000 ≤ N) (hb : bOK Θ 9 m h) (I : Inv G H M (S 1)) {x : Int} (hx : 0 ≤ x ∧ x ≤ 60) {gs : List Int} (hg : ∀ y, y ∈ gs → 0 ≤ y) (ht : TB (wR (S 1)) 8 gs (S 7)) : ∃ S', P_R_takesGap Θ N (HR Θ m S h) m (J x) = some ((), HR Θ m S' h) ∧ (∀ a : Nat, a ≠ 7 → S' a = S a) ∧ TB (wR (S 1)) 8 (gs ++ [x]) (S' 7) := by
  obtain ⟨S', a1, a2, a3, a4⟩ := s_tgO_L (h := h) (K := fun h17 => some ((), h17)) hN hb I hx (S0 := S) rfl (fun u hu => (ht u hu).1) 255 N S (by omega) (by omega) (fun _ _ => rfl) (fun _ _ => rfl) (fun s s1 s2 => by omega)
  refine ⟨S', ?_, a2, TB_S hx.1 ht (fun s hs => ?_)⟩
  · unfold P_R_takesGap
    rw [r_A14 hb, bo_some, r_n7 hb, bo_some, J_sub]
    exact a1
  · by_cases c : s = 0
    · subst c
      have r0 := TB_row0 hg ht
      rw [show ((0 : Nat) : Int) = 0 from rfl, a3]
      exact ⟨Or.inr r0, fun _ => Or.inl r0, fun _ => r0⟩
    · have := a4 s (by omega) hs
      unfold nxt at this
      refine ⟨this.1, this.2.trans (or_congr Iff.rfl (hasF_ex.trans ⟨fun ⟨u, p1, p2, p3, p4⟩ => ⟨u, p1, p2, ?_, p4⟩, fun ⟨u, p1, p2, p3, p4⟩ => ⟨u, p1, p2, ?_, p4⟩⟩))⟩
      · unfold mtf at p3
        rw [Int.toNat_natCast] at p3
        exact p3
      · unfold mtf
        rw [Int.toNat_natCast]
        exact p3
theorem s_packs0_L (hb : bOK Θ 9 m h) {S0 : Nat → Int → Int} {K : mH → Option (Unit × mH)} : ∀ (r j q : Nat) (S : Nat → Int → Int), j + r = 256 → r < q → (∀ a : Nat, a ≠ 7 → S a = S0 a) → (∀ s : Nat, s < j → S 7 s = if s = 0 then 1 else 0) → ∃ S', P_R_packs_2 Θ N K m q (HR Θ m S h) (J j) = K (HR Θ m S' h) ∧ (∀ a : Nat, a ≠ 7 → S' a = S0 a) ∧ (∀ s : Nat, s < 256 → S' 7 s = if s = 0 then 1 else 0) := by
  intro r
  induction r with
  | zero =>
    intro j q S hj hq h1 h2
    obtain ⟨q, rfl⟩ : ∃ n', q = n' + 1 := ⟨q - 1, by omega⟩
    rw [E_R_packs_2, B_R_packs_2, r_A14 hb, bo_some, r_n7 hb, bo_some, if_pos (by rw [J_le] <;> omega)]
    exact ⟨S, rfl, h1, fun s hs => h2 s (by omega)⟩
  | succ r ih =>
    intro j q S hj hq h1 h2
    obtain ⟨q, rfl⟩ : ∃ n', q = n' + 1 := ⟨q - 1, by omega⟩
    have fin : ∀ v : Int, v = (if j = 0 then 1 else 0) → ∃ S', P_R_packs_2 Θ N K m q (HR Θ m (up2 S 7 j v) h) (J ((j : Int) + 1)) = K (HR Θ m S' h) ∧ (∀ a : Nat, a ≠ 7 → S' a = S0 a) ∧ (∀ s : Nat, s < 256 → S' 7 s = if s = 0 then 1 else 0) := by
      intro v hv
      rw [show (j : Int) + 1 = ((j + 1 : Nat) : Int) by omega]
      refine ih (j + 1) q _ (by omega) (by omega) (fun a ha => by rw [up2_row ha]; exact h1 a ha) (fun s hs => ?_)
      by_cases c : s = j
      · subst c
        rw [up2_eq]
        exact hv
      · rw [up2_nj (by omega)]
        exact h2 s (by omega)
    rw [E_R_packs_2, B_R_packs_2, r_A14 hb, bo_some, r_n7 hb, bo_some, if_neg (by rw [J_le] <;> omega), bo_some, jn_eq]
    by_cases c : j = 0
    · rw [if_pos (by rw [c]; rfl)]
      dsimp only
      rw [r_w7 hb (by omega) (by omega) (by omega), bo_some, J_add]
      exact fin 1 (by rw [if_pos c])
    · rw [if_neg (by rw [J_0, J_eq] <;> omega)]
      dsimp only
      rw [r_w7 hb (by omega) (by omega) (by omega), bo_some, J_add]
      exact fin 0 (by rw [if_neg c])
theorem s_packs_L (hN : 2000 ≤ N) (hb : bOK Θ 9 m h) (I : Inv G H M V) {S0 : Nat → Int → Int} (hV : S0 1 = V) {K : mH → Option (Unit × mH)} : ∀ (r j q : Nat) (S : Nat → Int → Int), j + r = 60 → r + 1 < q → (∀ a : Nat, a ≠ 7 → S a = S0 a) → TB (wR V) 8 (gsc V j).2 (S 7) → ∃ S', P_R_packs_36 Θ N K m q (HR Θ m S h) (J (gsc V j).1) (J j) = K (HR Θ m S' h) ∧ (∀ a : Nat, a ≠ 7 → S' a = S0 a) ∧ TB (wR V) 8 (gps V) (S' 7) := by
  intro r
  induction r with
  | zero =>
    intro j q S hj hq h1 h2
    obtain ⟨q, rfl⟩ : ∃ n', q = n' + 2 := ⟨q - 2, by omega⟩
    obtain rfl : j = 60 := by omega
    obtain ⟨a, -, c⟩ := gsc_rng (V := V) 60
    have eV : S 1 = V := by rw [h1 1 (by omega)]; exact hV
    rw [E_R_packs_36, B_R_packs_36, if_neg (by decide), jn_eq, jn_eq, if_pos (by decide)]
    dsimp only
    by_cases d : 0 < (gsc V 60).1
    · obtain ⟨S', a1, a2, a3⟩ := s_takesGap (S := S) (x := (gsc V 60).1) (gs := (gsc V 60).2) hN hb (by rw [eV]; exact I) (by omega) (fun y hy => by have := c y hy; omega) (by rw [eV]; exact h2)
      rw [if_neg (by rw [J_0, J_le] <;> omega), r_O hb, a1, bc_some, E_R_packs_36, B_R_packs_36, if_pos (by decide)]
      refine ⟨S', rfl, fun a ha => by rw [a2 a ha]; exact h1 a ha, ?_⟩
      unfold gps
      rw [if_pos d]
      rw [eV] at a3
      exact a3
    · rw [if_pos (by rw [J_0, J_le] <;> omega), E_R_packs_36, B_R_packs_36, if_pos (by decide)]
      refine ⟨S, rfl, h1, ?_⟩
      unfold gps
      rw [if_neg d]
      exact h2
  | succ r ih =>
    intro j q S hj hq h1 h2
    obtain ⟨q, rfl⟩ : ∃ n', q = n' + 1 := ⟨q - 1, by omega⟩
    obtain ⟨a, -, c⟩ := gsc_rng (V := V) j
    have eV : S 1 = V := by rw [h1 1 (by omega)]; exact hV
    have hO : OKV (S 1) := by rw [eV]; exact I.ok
    have hw := at_le (S := S) hO (p := j)
    have h4 := I.h4
    rw [eV] at hw
    rw [E_R_packs_36, B_R_packs_36, if_neg (by rw [J_lt] <;> omega), jn_eq, jn_eq, if_neg (by rw [J_le] <;> omega), r_O hb, s_at hN hb hO (by omega) (by omega), bc_some, eV]
    by_cases f : at' V j = -1
    · rw [if_pos (by rw [f])]
      dsimp only
      rw [J_add, J_add, show (j : Int) + 1 = ((j + 1 : Nat) : Int) by omega]
      have := ih (j + 1) q S (by omega) (by omega) h1 (by rw [gsc, if_pos f]; exact h2)
      rw [gsc, if_pos f] at this
      exact this
    · rw [if_neg (by rw [J_eq] <;> omega)]
      dsimp only
      by_cases d : 0 < (gsc V j).1
      · obtain ⟨S', a1, a2, a3⟩ := s_takesGap (S := S) (x := (gsc V j).1) (gs := (gsc V j).2) hN hb (by rw [eV]; exact I) (by omega) (fun y hy => by have := c y hy; omega) (by rw [eV]; exact h2)
        rw [if_neg (by rw [J_0, J_le] <;> omega), r_O hb, a1, bc_some, J_add, show (j : Int) + 1 = ((j + 1 : Nat) : Int) by omega]
        rw [eV] at a3
        have := ih (j + 1) q S' (by omega) (by omega) (fun a ha => by rw [a2 a ha]; exact h1 a ha) (by rw [gsc, if_neg f, if_pos d]; exact a3)
        rw [gsc, if_neg f] at this
        exact this
      · rw [if_pos (by rw [J_0, J_le] <;> omega), J_add, show (j : Int) + 1 = ((j + 1 : Nat) : Int) by omega, show (gsc V j).1 = 0 by omega]
        have := ih (j + 1) q S (by omega) (by omega) h1 (by rw [gsc, if_neg f, if_neg d]; exact h2)
        rw [gsc, if_neg f] at this
        exact this
theorem s_packs (hN : 2000 ≤ N) (hb : bOK Θ 9 m h) (I : Inv G H M (S 1)) : ∃ S', P_R_packs Θ N (HR Θ m S h) m = some ((), HR Θ m S' h) ∧ (∀ a : Nat, a ≠ 7 → S' a = S a) ∧ TB (wR (S 1)) 8 (gps (S 1)) (S' 7) := by
  unfold P_R_packs
  obtain ⟨S1, a1, a2, a3⟩ := s_packs0_L (N := N) (S0 := S) (K := fun h8 => (P_R_packs_36 Θ N (fun h19 => (some ((), h19))) m N h8 (J 0) (J 0))) hb 256 0 N S (by omega) (by omega) (fun _ _ => rfl) (fun s hs => by omega)
  obtain ⟨S2, b1, b2, b3⟩ := s_packs_L (S0 := S1) (K := fun h19 => some ((), h19)) hN hb I (a2 1 (by omega)) 60 0 N S1 (by omega) (by omega) (fun _ _ => rfl) (TB_0 (fun s hs => a3 s hs))
  refine ⟨S2, ?_, fun a ha => by rw [b2 a ha]; exact a2 a ha, b3⟩
  exact (show _ = _ from a1).trans b1
def mval (V : Int → Int) (f : Int) : Int → Int := if f = 0 then cntf 8 else mtf (wR V) 8
theorem mval_0 {s : Nat} : mval V 0 s = MT one1 (tb s) 8 := by
  unfold mval
  rw [if_pos rfl]
  unfold cntf
  rw [Int.toNat_natCast]
theorem mval_1 {s : Nat} : mval V 1 s = MT (wR V) (tb s) 8 := by
  unfold mval
  rw [if_neg (by omega)]
  unfold mtf
  rw [Int.toNat_natCast]
theorem s_mostOf_L (hN : 2000 ≤ N) (hb : bOK Θ 9 m h) (I : Inv G H M (S 1)) (hr : ∀ s : Nat, s < 256 → S 7 s = 0 ∨ S 7 s = 1) {f : Int} (hf : f = 0 ∨ f = 1) {K : mH → Int32 → Option (Int32 × mH)} : ∀ (r j q : Nat), j + r = 256 → r < q → P_R_mostOf_13 Θ N K m (J f) q (HR Θ m S h) (J (mxs (S 7) (mval (S 1) f) j)) (J j) = K (HR Θ m S h) (J (mxs (S 7) (mval (S 1) f) 256)) := by
  intro r
  have hval : ∀ s : Nat, 0 ≤ mval (S 1) f s ∧ mval (S 1) f s ≤ 10000 := fun s => by
    rcases hf with rfl | rfl
    · rw [mval_0]
      have := MT_one 8 (tb s)
      omega
    · rw [mval_1]
      have := MT_60 (f := wR (S 1)) (σ := tb s) (B := 61) (by omega) 8 (fun k _ => wR_rng I (by omega))
      omega
  induction r with
  | zero =>
    intro j q hj hq
    obtain ⟨q, rfl⟩ : ∃ n', q = n' + 1 := ⟨q - 1, by omega⟩
    rw [E_R_mostOf_13, B_R_mostOf_13, r_A14 hb, bo_some, r_n7 hb, bo_some, if_pos (by rw [J_le] <;> omega), show j = 256 by omega]
  | succ r ih =>
    intro j q hj hq
    obtain ⟨q, rfl⟩ : ∃ n', q = n' + 1 := ⟨q - 1, by omega⟩
    have ih' := ih (j + 1) q (by omega) (by omega)
    have ge := mxs_ge (row := S 7) (val := mval (S 1) f) j
    have le := mxs_le (row := S 7) (val := mval (S 1) f) (B := 10000) (by omega) j (fun s _ => (hval s).2)
    have vj := hval j
    rw [mxs] at ih'
    rw [E_R_mostOf_13, B_R_mostOf_13, r_A14 hb, bo_some, r_n7 hb, bo_some, if_neg (by rw [J_le] <;> omega), bo_some, r_a7 hb (by omega) (by omega), bo_some, jn_eq, ← ih', show ((j + 1 : Nat) : Int) = (j : Int) + 1 by omega]
    rcases hr j (by omega) with c | c
    · rw [if_pos (by rw [c]; rfl), if_neg (show ¬ S 7 j = 1 by omega), J_add]
    · rw [if_neg (by rw [c]; decide), if_pos (show S 7 j = 1 from c), jn_eq]
      rcases hf with rfl | rfl
      · rw [if_pos (show J 0 = (0 : Int32) from rfl), c_bits (n := 8) (by omega) (by omega), bc_some, ← mval_0 (V := S 1)]
        dsimp only
        rw [J_mx (by omega) (by omega) (by omega) (by omega), J_add]
      · rw [if_neg (show ¬ J 1 = (0 : Int32) by decide), r_O hb, s_metres hN hb I.ok (by omega), bc_some, ← mval_1 (V := S 1)]
        dsimp only
        rw [J_mx (by omega) (by omega) (by omega) (by omega), J_add]
theorem s_mostOf (hN : 2000 ≤ N) (hb : bOK Θ 9 m h) (I : Inv G H M (S 1)) {f : Int} (hf : f = 0 ∨ f = 1) : ∃ S' v, P_R_mostOf Θ N (HR Θ m S h) m (J f) = some (J v, HR Θ m S' h) ∧ (∀ a : Nat, a ≠ 7 → S' a = T13 S 0 a) ∧ (if f = 0 then isC (wlist (S 1) (mny (S 1))) (gps (S 1)) v else isM (wlist (S 1) (mny (S 1))) (gps (S 1)) v) := by
  have e1 : T13 S 0 1 = S 1 := T13_1
  obtain ⟨S', a1, a2, a3⟩ := s_packs (S := T13 S 0) (h := h) hN hb (by rw [e1]; exact I)
  have e2 : S' 1 = S 1 := by rw [a2 1 (by omega), e1]
  rw [e1] at a3
  refine ⟨S', mxs (S' 7) (mval (S' 1) f) 256, ?_, a2, ?_⟩
  · unfold P_R_mostOf
    have := s_mostOf_L (S := S') (h := h) (f := f) (K := fun h18 u19 => some (u19, h18)) hN hb (by rw [e2]; exact I) (fun s hs => (a3 s hs).1) hf 256 0 N (by omega) (by omega)
    rw [r_W13 hb, bo_some, r_O hb]
    refine (show _ = _ from congrArg (fun q => bc q _) a1).trans ?_
    exact this
  · have hw0 : ∀ w, w ∈ wl (wR (S 1)) 8 0 → 0 ≤ w := fun w hw => by
      obtain ⟨k, k1, k2, k3⟩ := (wl_mem _ _).mp hw
      rw [← k3]
      exact (wR_rng I k1).1
    have c1 := mxs_isC (fun j _ => (wR_rng I (V := S 1) (k := (j : Nat)) (by omega)).1) (fun g hg => (gps_rng g hg).1) a3
    have c2 := mxs_isM (fun j _ => (wR_rng I (V := S 1) (k := (j : Nat)) (by omega)).1) (fun g hg => (gps_rng g hg).1) a3
    have d1 := isC_61 hw0 gps_rng c1
    have d2 := isM_61 hw0 gps_rng c2
    rw [wR_wlist I] at d1 d2
    rw [e2]
    unfold mval
    rcases hf with rfl | rfl
    · rw [if_pos rfl, if_pos rfl]
      exact d1
    · rw [if_neg (by omega), if_neg (by omega)]
      exact d2
end R8
