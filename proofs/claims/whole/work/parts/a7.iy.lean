/-! the world at the start, joined -/
section IY
variable {Θ : mW} {N k : Nat} {H : mH}
theorem msz_a {a b : mH} : msz (a ++ b) = msz a + msz b := by
  unfold msz
  rw [List.map_append, List.sum_append]
theorem m_d {q : Nat} : msz (dL q) = 113 := rfl
theorem m_ds {q : Nat} : ∀ j : Nat, msz (dks q j) = 113 * j
  | 0 => rfl
  | j + 1 => by
    rw [dks, msz_a, m_d, m_ds j]
    omega
theorem m_H : msz (H00 Θ (mwB Θ)) ≤ sz0 := by
  have m1 : msz (R1 (mwB Θ)) = 113 := rfl
  have mF : msz (fcL Θ (mwB Θ)) = 11 + msz (R7 Θ (mwB Θ)) := rfl
  have mh : msz (hiL (mwB Θ + 27) 8) = 11 + 904 := by
    unfold hiL
    rw [msz_a, m_ds]
    rfl
  have mg : msz (gL (mwB Θ + 146)) = 535 := rfl
  have mt : msz (tL Θ (mwB Θ + 151)) = 30 := rfl
  have ms : msz (sL (mwB Θ + 155)) = 20 := rfl
  have mr : msz (rL (mwB Θ + 157)) = 2076 := rfl
  have ml : msz [aL 1 (fun _ => 0)] = 1 := rfl
  have md : msz [aD 1 (fun _ => 0)] = 1 := rfl
  unfold H00
  rw [msz_a, mF]
  unfold R7 R6 R5 R4 R3 R2
  rw [msz_a, msz_a, msz_a, msz_a, msz_a, msz_a, msz_a, msz_a, m1, m_d, mh, m_d, mg, mt, ms, mr, ml, md]
  decide
theorem zw_0 : ZW Θ (mwB Θ) 0 (H00 Θ (mwB Θ)) S00 S00 := by
  have s1 : S00 1 = V00 := rfl
  have s05 : S00 0 5 = 0 := rfl
  refine ⟨⟨0, 1, fun i => 2 + i.toNat, 0, F00 (mwB Θ), fun _ => D00, Q00 (mwB Θ), ⟨h_F, fun i hi => hb_d ?_ (h_dk i hi), h_Y⟩, ⟨⟨rfl, rfl, rfl, rfl, rfl, rfl, rfl⟩, ⟨rfl, rfl, rfl, rfl⟩⟩, ⟨⟨by omega, by omega, by omega⟩, fun i i0 i1 => ⟨by dsimp only; omega, by dsimp only; omega, by dsimp only; omega⟩, fun i j i0 i1 j0 j1 ij => by dsimp only; omega⟩, ⟨⟨rfl, rfl⟩, ⟨by omega, by omega⟩, ⟨by rw [s05]; omega, by rw [s05]; omega⟩, fun i i0 i1 => ?_⟩, fun i hi => DV0.pm, ⟨DV0, In0⟩, fun B hB => hB.elim, fun e e0 e1 => by rw [s05] at e1; omega, Or.inl rfl, fun g => ?_⟩, ⟨⟨mwB Θ + 153, mwB Θ + 156, _, _, ⟨h_T, h_N, h_SB (p := 152) ?_ ?_ (by omega), ⟨rfl, rfl⟩, ⟨by omega, by omega, by omega, by omega, by omega⟩⟩, h_SB (p := 155) ?_ ?_ (by omega), ⟨Or.inl rfl, Or.inl rfl, by omega⟩⟩, ⟨_, h_G⟩, ⟨fun _ => 0, ?_⟩, ⟨fun _ => 0, ?_⟩⟩, h_R, ?_, ?_, ?_⟩
  · have := dk_rng hi
    rw [h_len]
    omega
  · show ((mwB Θ + (29 + 13 * i.toNat) : Nat) : Int) = _
    have e := dk_r ⟨i.toNat, by omega⟩
    rw [show dk (2 + i.toNat) = 29 + 13 * i.toNat from e]
  · have : S00 0 4 = 0 := rfl
    omega
  · rw [show 152 = 150 + 1 + 1 from rfl, H_7 (by omega), t7 (by omega)]
    exact (g6 (k := 1)).trans rfl
  · rw [show 152 + 1 = 150 + 2 + 1 from rfl, H_7 (by omega), t7 (by omega)]
    exact (g6 (k := 2)).trans rfl
  · rw [show 155 = 154 + 0 + 1 from rfl, H_7 (by omega)]
    exact (g7 (k := 0)).trans rfl
  · rw [show 155 + 1 = 154 + 1 + 1 from rfl, H_7 (by omega)]
    exact (g7 (k := 1)).trans rfl
  · rw [z_gt, show 166 = 157 + 9 from rfl, H_R]
    rfl
  · rw [z_gt, show 167 = 157 + 10 from rfl, H_R]
    rfl
  · have a : S00 0 10 = 0 := rfl
    have b : S00 0 12 = 0 := rfl
    have c : S00 0 8 = 0 := rfl
    have d : S00 0 6 = -1 := rfl
    have e : S00 0 7 = -1 := rfl
    unfold WN
    rw [a, b, c, d, e]
    omega
  · rw [h_len]
    omega
  · have := m_H (Θ := Θ)
    omega
/-- the law, whole -/
theorem law_all (mi : mI Θ) (hN2 : 100000 ≤ N) (hL : mwL Θ ≤ 2048) : ∃ h' : mH, P_W_law Θ N [] = some (J 1, h') ∧ h'.length ≤ 51400 ∧ msz h' ≤ 5130000 := by
  have st := i_F (Θ := Θ) (N := N) (by omega)
  obtain ⟨h', S', j, e1, e2, e3, e4⟩ := law_L (N := N) (K := fun h544 => some (J 1, h544)) mi hN2 hL 512 0 (H00 Θ (mwB Θ)) S00 N zw_0 (by omega) (by omega) (by omega) (by omega)
  refine ⟨h', ?_, ?_, ?_⟩
  · unfold P_W_law
    rw [show ∀ (F : Nat → mH → Option (Int32 × mH)) (e : mE), al Θ [] e F = F (mwB Θ) [e] from fun _ _ => rfl]
    rw [st, bc_some]
    unfold al
    have r := i_R (Θ := Θ) (N := N) (g := fcL Θ (mwB Θ))
    dsimp only
    rw [r, bc_some, l_alx 1 (by decide), l_alx 1 (by decide), nF]
    exact e1
  · have := e2.2.2.2.2.1
    omega
  · have h9 := e2.2.2.2.2.2
    have z : sz0 = 9000 := rfl
    omega
end IY
