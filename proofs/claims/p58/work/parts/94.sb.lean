/-! what a step leaves as it was; texts that grow -/
/-- from h to h2 nothing changes but in P, at most c new cells, z new slots -/
def Nx (Θ : mW) (h h2 : mH) (P : Nat → Prop) (c z : Nat) : Prop := (h.length ≤ h2.length ∧ h2.length ≤ h.length + c) ∧ (msz h ≤ msz h2 ∧ msz h2 ≤ msz h + z) ∧ ∀ x : Nat, x < mwB Θ + h.length → ¬ P x → gt Θ h2 x = gt Θ h x
section NX
variable {Θ : mW} {h h2 h3 : mH} {P Q : Nat → Prop} {c c2 z z2 : Nat}
theorem Nx.refl : Nx Θ h h P 0 0 := ⟨⟨Nat.le_refl _, Nat.le_refl _⟩, ⟨Nat.le_refl _, Nat.le_refl _⟩, fun _ _ _ => rfl⟩
theorem Nx.trans (a : Nx Θ h h2 P c z) (b : Nx Θ h2 h3 P c2 z2) : Nx Θ h h3 P (c + c2) (z + z2) := by
  obtain ⟨a1, a2, a3⟩ := a
  obtain ⟨b1, b2, b3⟩ := b
  refine ⟨by omega, by omega, fun x hx hp => ?_⟩
  rw [b3 x (by omega) hp, a3 x hx hp]
theorem Nx.wid (a : Nx Θ h h2 P c z) (hP : ∀ x, x < mwB Θ + h.length → P x → Q x) (hc : c ≤ c2) (hz : z ≤ z2) : Nx Θ h h2 Q c2 z2 := by
  obtain ⟨a1, a2, a3⟩ := a
  exact ⟨by omega, by omega, fun x hx hp => a3 x hx (fun y => hp (hP x hx y))⟩
theorem Nx.up (a : Nx Θ h h2 P c z) (hc : c ≤ c2) (hz : z ≤ z2) : Nx Θ h h2 P c2 z2 := a.wid (fun _ _ y => y) hc hz
theorem Nx.app {e : mE} : Nx Θ h (h ++ [e]) P 1 (msz1 e) := by
  refine ⟨by rw [List.length_append, List.length_singleton]; omega, by rw [msz_app]; omega, fun x hx _ => ?_⟩
  unfold gt
  split
  · rw [List.getElem?_append_left (by omega)]
  · rfl
theorem Nx.ex {n : Nat} : Nx Θ h (h ++ [oB n []]) P 1 6 := Nx.app
theorem Nx.bk {L : List Sh} {b : Nat} {D D2 : Nat → Int → Int} (hs : HB Θ L b D h) : Nx Θ h (BK Θ L b D2 h) (fun x => b ≤ x ∧ x < b + L.length) 0 0 := by
  refine ⟨by rw [BK_len]; omega, by rw [hs.msz]; omega, fun x hx hp => ?_⟩
  rw [BK_gt hs.1, if_neg hp]
theorem HB.nx {L : List Sh} {b : Nat} {D : Nat → Int → Int} (hs : HB Θ L b D h) (a : Nx Θ h h2 P c z) (hp : ∀ x, b ≤ x → x < b + L.length → ¬ P x) : HB Θ L b D h2 :=
  hs.frame a.1.1 (fun x h1 h3 => a.2.2 x (by have := hs.1.2; omega) (hp x h1 h3))
theorem bOK.nx {n b : Nat} (hb : bOK Θ n b h) (a : Nx Θ h h2 P c z) : bOK Θ n b h2 := ⟨hb.1, by have := hb.2; have := a.1.1; omega⟩
end NX
def shB : List Sh := [.inl (8, [some none, none, none, none])]
abbrev shA (cap : Nat) : List Sh := [.inr (.inl (4, cap))]
/-- a StringBuilder at q, its row of bytes at v, n letters -/
def SBs (Θ : mW) (q v : Nat) (n : Int) (β : Int → Int) (h : mH) : Prop := ∃ (B A : Nat → Int → Int) (cap : Nat), HB Θ shB q B h ∧ HB Θ (shA cap) v A h ∧ v ≠ q ∧ (B 0 0 = v ∧ B 0 1 = 0 ∧ B 0 3 = n) ∧ (0 ≤ n ∧ n ≤ cap ∧ 16 ≤ cap ∧ cap ≤ 140) ∧ (∀ j : Int, 0 ≤ j → j < cap → 0 ≤ A 0 j ∧ A 0 j < 128) ∧ ∀ j : Int, 0 ≤ j → j < n → A 0 j = β j
theorem sh_l (x : Int32) : x <<< (J 0 &&& 31) = x := by
  have : J 0 &&& (31 : Int32) = 0 := by decide
  rw [this]
  exact Int32.shiftLeft_zero
theorem sh_r (x : Int32) : x >>> (J 0 &&& 31) = x := by
  have : J 0 &&& (31 : Int32) = 0 := by decide
  rw [this]
  exact Int32.shiftRight_zero
theorem fits_by {a : Int} (h1 : 0 ≤ a) (h2 : a < 128) : fits .byte (.int (J a)) = true := by
  show ((decide ((-128 : Int32) ≤ J a)) && (decide (J a ≤ 127))) = true
  rw [Bool.and_eq_true, decide_eq_true_eq, decide_eq_true_eq]
  refine ⟨?_, ?_⟩
  · show J (-128) ≤ J a
    rw [J_le] <;> omega
  · show J a ≤ J 127
    rw [J_le] <;> omega
section SB1
variable {Θ : mW} {N q v : Nat} {n : Int} {β : Int → Int} {h : mH} {B A : Nat → Int → Int} {cap : Nat}
theorem b_value (hs : HB Θ shB q B h) (hv : B 0 0 = v) : rA Θ h 8 q 0 = some v := by
  have := HB.xB hs (i := 0) (k := 0) rfl rfl
  rw [show B 0 ((0 : Nat) : Int) = v from hv, Int.toNat_natCast] at this
  exact this
theorem b_coder (hs : HB Θ shB q B h) (hv : B 0 1 = 0) : rI Θ h 8 q 1 = some (J 0) := by
  have := HB.xI hs (i := 0) (k := 1) rfl rfl
  rw [show B 0 ((1 : Nat) : Int) = 0 from hv] at this
  exact this
theorem b_count (hs : HB Θ shB q B h) (hv : B 0 3 = n) : rI Θ h 8 q 3 = some (J n) := by
  have := HB.xI hs (i := 0) (k := 3) rfl rfl
  rw [show B 0 ((3 : Nat) : Int) = n from hv] at this
  exact this
theorem b_O8 (hs : HB Θ shB q B h) {ρ : Type} {p : Option ρ} : gO Θ h 8 q p = p := HB.xO hs (i := 0) rfl
theorem HB.xN {L : List Sh} {b i t k : Nat} {D : Nat → Int → Int} (hs : HB Θ L b D h) (hi : L[i]? = some (.inr (.inl (t, k)))) (ht : t < 7) : aN Θ h (b + i) = some (J k) := by
  have := g_aN (D := D) hi ht hs.1
  rwa [hs.2] at this
theorem HB.xR {L : List Sh} {b i t k : Nat} {x : Int} {D : Nat → Int → Int} (hs : HB Θ L b D h) (hi : L[i]? = some (.inr (.inl (t, k)))) (hn : k ≤ 2147483647) (h0 : 0 ≤ x) (h1 : x < k) : aR Θ h t (b + i) (J x) = some (J (D i x)) := by
  have := g_aR (D := D) hi hn hs.1 h0 h1
  rwa [hs.2] at this
theorem HB.xW {L : List Sh} {b i t k : Nat} {x w : Int} {D : Nat → Int → Int} (hs : HB Θ L b D h) (hi : L[i]? = some (.inr (.inl (t, k)))) (hn : k ≤ 2147483647) (h0 : 0 ≤ x) (h1 : x < k) : aW Θ h t (b + i) (J x) (J w) = some (BK Θ L b (up2 D i x w) h) := by
  have := g_aW (D := D) (v := w) hi hn hs.1 h0 h1
  rwa [hs.2] at this
theorem HB.xF {L : List Sh} {b i ci k : Nat} {w : Int} {ks : List (Option (Option Nat))} {D : Nat → Int → Int} (hs : HB Θ L b D h) (hi : L[i]? = some (.inl (ci, ks))) (hk : ks[k]? = some none) : wF Θ h ci (b + i) k (.int (J w)) = some (BK Θ L b (up2 D i k w) h) := by
  have := g_wI (D := D) (v := w) hi hk hs.1
  rwa [hs.2] at this
theorem HB.xG {L : List Sh} {b i ci k w : Nat} {ks : List (Option (Option Nat))} {D : Nat → Int → Int} (hs : HB Θ L b D h) (hi : L[i]? = some (.inl (ci, ks))) (hk : ks[k]? = some (some none)) : wF Θ h ci (b + i) k (.ref w) = some (BK Θ L b (up2 D i k w) h) := by
  have := g_wB (D := D) (v := w) hi hk hs.1
  rwa [hs.2] at this
theorem HB.at2 {L : List Sh} {b : Nat} {D : Nat → Int → Int} {i : Nat} {s : Sh} (hs : HB Θ L b D h) (hi : L[i]? = some s) : gt Θ h (b + i) = some (shC b s (D i)) := hs.at hi
/-- the row of bytes grows, if it must -/
theorem sb_ens (hs : SBs Θ q v n β h) {c : Int} (c0 : 0 ≤ c) (c1 : c ≤ 62) : ∃ (v2 : Nat) (h2 : mH), P_AB_ensureCapacityInternal Θ N h q (J c) = some ((), h2) ∧ (∃ (B A : Nat → Int → Int) (cap : Nat), HB Θ shB q B h2 ∧ HB Θ (shA cap) v2 A h2 ∧ v2 ≠ q ∧ (B 0 0 = v2 ∧ B 0 1 = 0 ∧ B 0 3 = n) ∧ (0 ≤ n ∧ n ≤ cap ∧ 16 ≤ cap ∧ cap ≤ 140 ∧ c ≤ cap) ∧ (∀ j : Int, 0 ≤ j → j < cap → 0 ≤ A 0 j ∧ A 0 j < 128) ∧ ∀ j : Int, 0 ≤ j → j < n → A 0 j = β j) ∧ (v2 = v ∨ mwB Θ + h.length ≤ v2) ∧ Nx Θ h h2 (fun x => x = q) 1 140 := by
  obtain ⟨B, A, cap, b1, b2, b3, b4, b5, b6, b7⟩ := hs
  have hN : aN Θ h v = some (J cap) := HB.xN b2 (i := 0) rfl (by omega)
  unfold P_AB_ensureCapacityInternal
  rw [b_value b1 b4.1, bo_some, hN, bo_some, b_coder b1 b4.2.1, bo_some, sh_r, J_sub]
  by_cases g : c ≤ cap
  · rw [if_pos (by rw [J_le0] <;> omega)]
    exact ⟨v, h, rfl, ⟨B, A, cap, b1, b2, b3, b4, by omega, b6, b7⟩, Or.inl rfl, Nx.refl.up (by omega) (by omega)⟩
  · rw [if_neg (by rw [J_le0] <;> omega), bo_some, b_O8 b1]
    obtain ⟨k, mx, k1, k2, k3⟩ : ∃ k : Nat, max (c - (cap : Int)) ((cap : Int) + 2) = (k : Int) - cap ∧ c ≤ k ∧ cap < k ∧ k ≤ 140 := by
      by_cases z : c - (cap : Int) ≤ (cap : Int) + 2
      · exact ⟨cap + (cap + 2), by rw [Int.max_eq_right z]; omega, by omega, by omega, by omega⟩
      · exact ⟨c.toNat, by rw [Int.max_eq_left (by omega)]; omega, by omega, by omega, by omega⟩
    have e1 : P_AB_newCapacity Θ N h q (J c) = some (J k, h) := by
      unfold P_AB_newCapacity
      rw [b_value b1 b4.1, bo_some, hN, bo_some, b_coder b1 b4.2.1, bo_some, bo_some, sh_l, sh_l]
      unfold P_AS_newLength
      rw [J_sub, J_add, J_mx (by omega) (by omega) (by omega) (by omega), mx, J_add, show (cap : Int) + ((k : Int) - cap) = k by omega, if_neg (by rw [J_le] <;> omega), if_neg (show ¬ (2147483639 : Int32) < J k from by show ¬ J 2147483639 < J k; rw [J_lt] <;> omega), bc_some, if_neg (show ¬ J k = (2147483647 : Int32) from by show ¬ J k = J 2147483647; rw [J_eq] <;> omega), b_coder b1 b4.2.1, bo_some, sh_r]
    have hk : (J (k : Int)).toNatClampNeg = k := by rw [J_nat (by omega) (by omega)]; omega
    have g0 : gt Θ h v = some (aI 4 cap (fun k => J (A 0 k))) := HB.at2 b2 (i := 0) rfl
    have hb2 : HB Θ (shA cap) v A (h ++ [aI 4 k (fun _ => 0)]) := b2.app
    have e2 : P_AR_copyOf Θ N h v (J k) = some (mwB Θ + h.length, pt Θ (h ++ [aI 4 k (fun _ => 0)]) (mwB Θ + h.length) (aI 4 k (va_cpy (fun k => J (A 0 k)) (fun _ => 0) 0 0 cap))) := by
      unfold P_AR_copyOf ala al
      rw [hN, bo_some, if_neg (by rw [J_eq] <;> omega), if_pos ⟨by rw [J_lt0] <;> omega, by rw [hk]; omega⟩, hk]
      have hN2 : aN Θ (h ++ [aI 4 k (fun _ => 0)]) v = some (J cap) := HB.xN hb2 (i := 0) rfl (by omega)
      refine (show _ = _ from congrArg (fun z => bo z _) hN2).trans ?_
      rw [bo_some, J_mn (by omega) (by omega) (by omega) (by omega), show min (cap : Int) k = cap by rw [Int.min_eq_left (by omega)]]
      have g2 : gt Θ (h ++ [aI 4 k (fun _ => 0)]) v = some (aI 4 cap (fun k => J (A 0 k))) := gt_app g0
      have g3 : gt Θ (h ++ [aI 4 k (fun _ => 0)]) (mwB Θ + h.length) = some (aI 4 k (fun _ => 0)) := gt_new
      have nc : (J (cap : Int)).toNatClampNeg = cap := by rw [J_nat (by omega) (by omega)]; omega
      have n0 : (J 0).toNatClampNeg = 0 := J_nat (a := 0) (by omega) (by omega)
      have ec : cpB Θ (h ++ [aI 4 k (fun _ => 0)]) v (J 0) (mwB Θ + h.length) (J 0) (J cap) = some (pt Θ (h ++ [aI 4 k (fun _ => 0)]) (mwB Θ + h.length) (aI 4 k (va_cpy (fun k => J (A 0 k)) (fun _ => 0) 0 0 cap))) := by
        unfold cpB
        rw [g2]
        show (if (List.range (J (cap : Int)).toNatClampNeg).all (fun i => fits .byte (.int (J (A 0 (((J 0).toNatClampNeg + i : Nat) : Int))))) = true then cpI Θ (h ++ [aI 4 k (fun _ => 0)]) 4 v (J 0) (mwB Θ + h.length) (J 0) (J cap) else none) = _
        rw [if_pos (by
          rw [List.all_eq_true]
          intro i hi
          rw [nc, List.mem_range] at hi
          rw [n0]
          have := b6 ((0 + i : Nat) : Int) (by omega) (by omega)
          exact fits_by this.1 this.2)]
        unfold cpI
        rw [g2, g3]
        show (if ((4 : Nat) = 4 ∧ (4 : Nat) = 4) ∧ (¬ J 0 < 0 ∧ ¬ J 0 < 0 ∧ ¬ J (cap : Int) < 0) ∧ (J 0).toNatClampNeg + (J (cap : Int)).toNatClampNeg ≤ cap ∧ (J 0).toNatClampNeg + (J (cap : Int)).toNatClampNeg ≤ k then some (pt Θ (h ++ [aI 4 k (fun _ => 0)]) (mwB Θ + h.length) (aI 4 k (va_cpy (fun k => J (A 0 k)) (fun _ => 0) (J 0).toNatClampNeg (J 0).toNatClampNeg (J (cap : Int)).toNatClampNeg))) else none) = _
        rw [if_pos ⟨⟨rfl, rfl⟩, ⟨by decide, by decide, by rw [J_lt0] <;> omega⟩, by rw [n0, nc]; omega, by rw [n0, nc]; omega⟩, n0, nc]
      rw [ec, bo_some]
    rw [e1, bc_some, b_coder b1 b4.2.1, bo_some, sh_l, e2, bc_some]
    generalize hh : pt Θ (h ++ [aI 4 k (fun _ => 0)]) (mwB Θ + h.length) (aI 4 k (va_cpy (fun k => J (A 0 k)) (fun _ => 0) 0 0 cap)) = h3
    have g3 : gt Θ (h ++ [aI 4 k (fun _ => 0)]) (mwB Θ + h.length) = some (aI 4 k (fun _ => 0)) := gt_new
    have nx3 : Nx Θ h h3 (fun x => x = q) 1 140 := by
      refine ⟨?_, ?_, fun x hx hp => ?_⟩
      · rw [← hh, pt_length, List.length_append, List.length_singleton]; omega
      · rw [← hh, msz_pt (e := aI 4 k (va_cpy (fun k => J (A 0 k)) (fun _ => 0) 0 0 cap)) g3 rfl, msz_app]
        show msz h ≤ msz h + k ∧ msz h + k ≤ msz h + 140
        omega
      · rw [← hh, gt_pt g3, if_neg (by omega)]
        exact (Nx.app (P := fun _ => False)).2.2 x hx (fun y => y)
    have hq := b1.1
    have hB3 : HB Θ shB q B h3 := by
      refine HB.of (hq.nx nx3) (fun i s hi => ?_)
      obtain rfl : i = 0 := by
        have := (List.getElem?_eq_some_iff.mp hi).1
        simp [shB] at this
        exact this
      rw [← hh, gt_pt g3, if_neg (by have := hq.2; simp [shB] at this; omega)]
      exact gt_app (b1.at hi)
    let A2 : Nat → Int → Int := fun _ j => if 0 ≤ j ∧ j < cap then A 0 j else 0
    have hA3 : HB Θ (shA k) (mwB Θ + h.length) A2 h3 := by
      refine HB.of ⟨by omega, by rw [← hh, pt_length, List.length_append]; simp; omega⟩ (fun i s hi => ?_)
      obtain rfl : i = 0 := by
        have := (List.getElem?_eq_some_iff.mp hi).1
        simp at this
        exact this
      cases hi
      rw [← hh, gt_pt g3, if_pos (by omega)]
      have e : va_cpy (fun k : Nat => J (A 0 k)) (fun _ => 0) 0 0 cap = fun k : Nat => J (A2 0 k) := by
        funext k
        unfold va_cpy
        show _ = J (if 0 ≤ (k : Int) ∧ (k : Int) < cap then A 0 k else 0)
        by_cases c : k < cap
        · rw [if_pos (by omega), if_pos (by omega), show 0 + (k - 0) = k by omega]
        · rw [if_neg (by omega), if_neg (by omega)]
          rfl
      rw [e]
      rfl
    have ne : mwB Θ + h.length ≠ q := by have := hq.2; simp [shB] at this; omega
    have wr := HB.xG (w := mwB Θ + h.length) hB3 (i := 0) (ci := 8) (k := 0) rfl rfl
    rw [Nat.add_zero] at wr
    rw [wr, bo_some]
    refine ⟨mwB Θ + h.length, _, rfl, ⟨_, A2, k, HB.self hB3.1, hA3.other hB3.1 (by simp [shB]; omega), ne, ⟨?_, ?_, ?_⟩, by omega, fun j j1 j2 => ?_, fun j j1 j2 => ?_⟩, Or.inr (Nat.le_refl _), ?_⟩
    · exact up2_eq
    · rw [up2_nj (by omega)]; exact b4.2.1
    · rw [up2_nj (by omega)]; exact b4.2.2
    · show 0 ≤ (if 0 ≤ j ∧ j < (cap : Int) then A 0 j else 0) ∧ (if 0 ≤ j ∧ j < (cap : Int) then A 0 j else 0) < 128
      split
      · exact b6 j j1 (by omega)
      · omega
    · show (if 0 ≤ j ∧ j < (cap : Int) then A 0 j else 0) = β j
      rw [if_pos (by omega)]
      exact b7 j j1 j2
    · exact (nx3.trans ((Nx.bk hB3).wid (Q := fun x => x = q) (fun x _ hx => by simp [shB] at hx; omega) (Nat.le_refl 0) (Nat.le_refl 0))).up (by omega) (by omega)
end SB1
