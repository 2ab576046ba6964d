/-! the reference: its block and what is read and written of it -/
def shR : List Sh := [.inl (9, [some (some 1), some (some 2), some (some 3), some (some 4), none, none, none, none, none, some (some 5), none, some (some 6), none, none, some (some 7), none, none, none, none, some (some 8)]), .inr (.inl (0, 140)), .inr (.inl (0, 140)), .inr (.inl (0, 140)), .inr (.inl (0, 1120)), .inr (.inl (0, 60)), .inr (.inl (0, 80)), .inr (.inl (1, 256)), .inr (.inl (0, 120))]
abbrev HR (Θ : mW) (m : Nat) (S : Nat → Int → Int) (h : mH) : mH := BK Θ shR m S h
section RI
variable {Θ : mW} {m : Nat} {S : Nat → Int → Int} {h : mH}
theorem r_A0 (hb : bOK Θ 9 m h) : rA Θ (HR Θ m S h) 9 m 0 = some (m + 1) := g_rA (i := 0) rfl rfl hb
theorem r_A1 (hb : bOK Θ 9 m h) : rA Θ (HR Θ m S h) 9 m 1 = some (m + 2) := g_rA (i := 0) rfl rfl hb
theorem r_A2 (hb : bOK Θ 9 m h) : rA Θ (HR Θ m S h) 9 m 2 = some (m + 3) := g_rA (i := 0) rfl rfl hb
theorem r_A3 (hb : bOK Θ 9 m h) : rA Θ (HR Θ m S h) 9 m 3 = some (m + 4) := g_rA (i := 0) rfl rfl hb
theorem r_I4 (hb : bOK Θ 9 m h) : rI Θ (HR Θ m S h) 9 m 4 = some (J (S 0 4)) := g_rI (i := 0) rfl rfl hb
theorem r_W4 (hb : bOK Θ 9 m h) {v : Int} : wF Θ (HR Θ m S h) 9 m 4 (.int (J v)) = some (HR Θ m (up2 S 0 4 v) h) := g_wI (i := 0) rfl rfl hb
theorem r_I5 (hb : bOK Θ 9 m h) : rI Θ (HR Θ m S h) 9 m 5 = some (J (S 0 5)) := g_rI (i := 0) rfl rfl hb
theorem r_W5 (hb : bOK Θ 9 m h) {v : Int} : wF Θ (HR Θ m S h) 9 m 5 (.int (J v)) = some (HR Θ m (up2 S 0 5 v) h) := g_wI (i := 0) rfl rfl hb
theorem r_I6 (hb : bOK Θ 9 m h) : rI Θ (HR Θ m S h) 9 m 6 = some (J (S 0 6)) := g_rI (i := 0) rfl rfl hb
theorem r_W6 (hb : bOK Θ 9 m h) {v : Int} : wF Θ (HR Θ m S h) 9 m 6 (.int (J v)) = some (HR Θ m (up2 S 0 6 v) h) := g_wI (i := 0) rfl rfl hb
theorem r_I7 (hb : bOK Θ 9 m h) : rI Θ (HR Θ m S h) 9 m 7 = some (J (S 0 7)) := g_rI (i := 0) rfl rfl hb
theorem r_W7 (hb : bOK Θ 9 m h) {v : Int} : wF Θ (HR Θ m S h) 9 m 7 (.int (J v)) = some (HR Θ m (up2 S 0 7 v) h) := g_wI (i := 0) rfl rfl hb
theorem r_I8 (hb : bOK Θ 9 m h) : rI Θ (HR Θ m S h) 9 m 8 = some (J (S 0 8)) := g_rI (i := 0) rfl rfl hb
theorem r_W8 (hb : bOK Θ 9 m h) {v : Int} : wF Θ (HR Θ m S h) 9 m 8 (.int (J v)) = some (HR Θ m (up2 S 0 8 v) h) := g_wI (i := 0) rfl rfl hb
theorem r_A9 (hb : bOK Θ 9 m h) : rA Θ (HR Θ m S h) 9 m 9 = some (m + 5) := g_rA (i := 0) rfl rfl hb
theorem r_I10 (hb : bOK Θ 9 m h) : rI Θ (HR Θ m S h) 9 m 10 = some (J (S 0 10)) := g_rI (i := 0) rfl rfl hb
theorem r_W10 (hb : bOK Θ 9 m h) {v : Int} : wF Θ (HR Θ m S h) 9 m 10 (.int (J v)) = some (HR Θ m (up2 S 0 10 v) h) := g_wI (i := 0) rfl rfl hb
theorem r_A11 (hb : bOK Θ 9 m h) : rA Θ (HR Θ m S h) 9 m 11 = some (m + 6) := g_rA (i := 0) rfl rfl hb
theorem r_I12 (hb : bOK Θ 9 m h) : rI Θ (HR Θ m S h) 9 m 12 = some (J (S 0 12)) := g_rI (i := 0) rfl rfl hb
theorem r_W12 (hb : bOK Θ 9 m h) {v : Int} : wF Θ (HR Θ m S h) 9 m 12 (.int (J v)) = some (HR Θ m (up2 S 0 12 v) h) := g_wI (i := 0) rfl rfl hb
theorem r_I13 (hb : bOK Θ 9 m h) : rI Θ (HR Θ m S h) 9 m 13 = some (J (S 0 13)) := g_rI (i := 0) rfl rfl hb
theorem r_W13 (hb : bOK Θ 9 m h) {v : Int} : wF Θ (HR Θ m S h) 9 m 13 (.int (J v)) = some (HR Θ m (up2 S 0 13 v) h) := g_wI (i := 0) rfl rfl hb
theorem r_A14 (hb : bOK Θ 9 m h) : rA Θ (HR Θ m S h) 9 m 14 = some (m + 7) := g_rA (i := 0) rfl rfl hb
theorem r_I15 (hb : bOK Θ 9 m h) : rI Θ (HR Θ m S h) 9 m 15 = some (J (S 0 15)) := g_rI (i := 0) rfl rfl hb
theorem r_W15 (hb : bOK Θ 9 m h) {v : Int} : wF Θ (HR Θ m S h) 9 m 15 (.int (J v)) = some (HR Θ m (up2 S 0 15 v) h) := g_wI (i := 0) rfl rfl hb
theorem r_I16 (hb : bOK Θ 9 m h) : rI Θ (HR Θ m S h) 9 m 16 = some (J (S 0 16)) := g_rI (i := 0) rfl rfl hb
theorem r_W16 (hb : bOK Θ 9 m h) {v : Int} : wF Θ (HR Θ m S h) 9 m 16 (.int (J v)) = some (HR Θ m (up2 S 0 16 v) h) := g_wI (i := 0) rfl rfl hb
theorem r_I17 (hb : bOK Θ 9 m h) : rI Θ (HR Θ m S h) 9 m 17 = some (J (S 0 17)) := g_rI (i := 0) rfl rfl hb
theorem r_W17 (hb : bOK Θ 9 m h) {v : Int} : wF Θ (HR Θ m S h) 9 m 17 (.int (J v)) = some (HR Θ m (up2 S 0 17 v) h) := g_wI (i := 0) rfl rfl hb
theorem r_I18 (hb : bOK Θ 9 m h) : rI Θ (HR Θ m S h) 9 m 18 = some (J (S 0 18)) := g_rI (i := 0) rfl rfl hb
theorem r_W18 (hb : bOK Θ 9 m h) {v : Int} : wF Θ (HR Θ m S h) 9 m 18 (.int (J v)) = some (HR Θ m (up2 S 0 18 v) h) := g_wI (i := 0) rfl rfl hb
theorem r_A19 (hb : bOK Θ 9 m h) : rA Θ (HR Θ m S h) 9 m 19 = some (m + 8) := g_rA (i := 0) rfl rfl hb
theorem r_O (hb : bOK Θ 9 m h) {ρ : Type} {p : Option ρ} : gO Θ (HR Θ m S h) 9 m p = p := g_gO (i := 0) rfl hb
theorem r_a1 (hb : bOK Θ 9 m h) {x : Int} (h0 : 0 ≤ x) (h1 : x < 140) : aR Θ (HR Θ m S h) 0 (m + 1) (J x) = some (J (S 1 x)) := g_aR (i := 1) (n := 140) rfl (by omega) hb h0 h1
theorem r_w1 (hb : bOK Θ 9 m h) {x v : Int} (h0 : 0 ≤ x) (h1 : x < 140) : aW Θ (HR Θ m S h) 0 (m + 1) (J x) (J v) = some (HR Θ m (up2 S 1 x v) h) := g_aW (i := 1) (n := 140) rfl (by omega) hb h0 h1
theorem r_n1 (hb : bOK Θ 9 m h) : aN Θ (HR Θ m S h) (m + 1) = some (J 140) := g_aN (i := 1) (n := 140) rfl (by omega) hb
theorem r_a2 (hb : bOK Θ 9 m h) {x : Int} (h0 : 0 ≤ x) (h1 : x < 140) : aR Θ (HR Θ m S h) 0 (m + 2) (J x) = some (J (S 2 x)) := g_aR (i := 2) (n := 140) rfl (by omega) hb h0 h1
theorem r_w2 (hb : bOK Θ 9 m h) {x v : Int} (h0 : 0 ≤ x) (h1 : x < 140) : aW Θ (HR Θ m S h) 0 (m + 2) (J x) (J v) = some (HR Θ m (up2 S 2 x v) h) := g_aW (i := 2) (n := 140) rfl (by omega) hb h0 h1
theorem r_n2 (hb : bOK Θ 9 m h) : aN Θ (HR Θ m S h) (m + 2) = some (J 140) := g_aN (i := 2) (n := 140) rfl (by omega) hb
theorem r_a3 (hb : bOK Θ 9 m h) {x : Int} (h0 : 0 ≤ x) (h1 : x < 140) : aR Θ (HR Θ m S h) 0 (m + 3) (J x) = some (J (S 3 x)) := g_aR (i := 3) (n := 140) rfl (by omega) hb h0 h1
theorem r_w3 (hb : bOK Θ 9 m h) {x v : Int} (h0 : 0 ≤ x) (h1 : x < 140) : aW Θ (HR Θ m S h) 0 (m + 3) (J x) (J v) = some (HR Θ m (up2 S 3 x v) h) := g_aW (i := 3) (n := 140) rfl (by omega) hb h0 h1
theorem r_n3 (hb : bOK Θ 9 m h) : aN Θ (HR Θ m S h) (m + 3) = some (J 140) := g_aN (i := 3) (n := 140) rfl (by omega) hb
theorem r_a4 (hb : bOK Θ 9 m h) {x : Int} (h0 : 0 ≤ x) (h1 : x < 1120) : aR Θ (HR Θ m S h) 0 (m + 4) (J x) = some (J (S 4 x)) := g_aR (i := 4) (n := 1120) rfl (by omega) hb h0 h1
theorem r_w4 (hb : bOK Θ 9 m h) {x v : Int} (h0 : 0 ≤ x) (h1 : x < 1120) : aW Θ (HR Θ m S h) 0 (m + 4) (J x) (J v) = some (HR Θ m (up2 S 4 x v) h) := g_aW (i := 4) (n := 1120) rfl (by omega) hb h0 h1
theorem r_n4 (hb : bOK Θ 9 m h) : aN Θ (HR Θ m S h) (m + 4) = some (J 1120) := g_aN (i := 4) (n := 1120) rfl (by omega) hb
theorem r_a5 (hb : bOK Θ 9 m h) {x : Int} (h0 : 0 ≤ x) (h1 : x < 60) : aR Θ (HR Θ m S h) 0 (m + 5) (J x) = some (J (S 5 x)) := g_aR (i := 5) (n := 60) rfl (by omega) hb h0 h1
theorem r_w5 (hb : bOK Θ 9 m h) {x v : Int} (h0 : 0 ≤ x) (h1 : x < 60) : aW Θ (HR Θ m S h) 0 (m + 5) (J x) (J v) = some (HR Θ m (up2 S 5 x v) h) := g_aW (i := 5) (n := 60) rfl (by omega) hb h0 h1
theorem r_n5 (hb : bOK Θ 9 m h) : aN Θ (HR Θ m S h) (m + 5) = some (J 60) := g_aN (i := 5) (n := 60) rfl (by omega) hb
theorem r_a6 (hb : bOK Θ 9 m h) {x : Int} (h0 : 0 ≤ x) (h1 : x < 80) : aR Θ (HR Θ m S h) 0 (m + 6) (J x) = some (J (S 6 x)) := g_aR (i := 6) (n := 80) rfl (by omega) hb h0 h1
theorem r_w6 (hb : bOK Θ 9 m h) {x v : Int} (h0 : 0 ≤ x) (h1 : x < 80) : aW Θ (HR Θ m S h) 0 (m + 6) (J x) (J v) = some (HR Θ m (up2 S 6 x v) h) := g_aW (i := 6) (n := 80) rfl (by omega) hb h0 h1
theorem r_n6 (hb : bOK Θ 9 m h) : aN Θ (HR Θ m S h) (m + 6) = some (J 80) := g_aN (i := 6) (n := 80) rfl (by omega) hb
theorem r_a7 (hb : bOK Θ 9 m h) {x : Int} (h0 : 0 ≤ x) (h1 : x < 256) : aR Θ (HR Θ m S h) 1 (m + 7) (J x) = some (J (S 7 x)) := g_aR (i := 7) (n := 256) rfl (by omega) hb h0 h1
theorem r_w7 (hb : bOK Θ 9 m h) {x v : Int} (h0 : 0 ≤ x) (h1 : x < 256) (hv : v = 0 ∨ v = 1) : aW Θ (HR Θ m S h) 1 (m + 7) (J x) (vp_nar .boolean (J v)) = some (HR Θ m (up2 S 7 x v) h) := by rw [nar_bool hv]; exact g_aW (i := 7) (n := 256) rfl (by omega) hb h0 h1
theorem r_n7 (hb : bOK Θ 9 m h) : aN Θ (HR Θ m S h) (m + 7) = some (J 256) := g_aN (i := 7) (n := 256) rfl (by omega) hb
theorem r_a8 (hb : bOK Θ 9 m h) {x : Int} (h0 : 0 ≤ x) (h1 : x < 120) : aR Θ (HR Θ m S h) 0 (m + 8) (J x) = some (J (S 8 x)) := g_aR (i := 8) (n := 120) rfl (by omega) hb h0 h1
theorem r_w8 (hb : bOK Θ 9 m h) {x v : Int} (h0 : 0 ≤ x) (h1 : x < 120) : aW Θ (HR Θ m S h) 0 (m + 8) (J x) (J v) = some (HR Θ m (up2 S 8 x v) h) := g_aW (i := 8) (n := 120) rfl (by omega) hb h0 h1
theorem r_n8 (hb : bOK Θ 9 m h) : aN Θ (HR Θ m S h) (m + 8) = some (J 120) := g_aN (i := 8) (n := 120) rfl (by omega) hb
theorem up2_ne {a i : Nat} {k v j : Int} (ha : a ≠ i) : up2 S i k v a j = S a j := by unfold up2; rw [if_neg ha]
theorem up2_eq {i : Nat} {k v : Int} : up2 S i k v i k = v := by unfold up2 up1; rw [if_pos rfl, if_pos rfl]
theorem up2_nj {i : Nat} {k v j : Int} (hj : j ≠ k) : up2 S i k v i j = S i j := by unfold up2 up1; rw [if_pos rfl, if_neg hj]
theorem up2_row {i a : Nat} {k v : Int} (ha : a ≠ i) : up2 S i k v a = S a := by unfold up2; rw [if_neg ha]
theorem up2_at {a i : Nat} {k v j : Int} : up2 S i k v a j = if a = i ∧ j = k then v else S a j := by
  by_cases ha : a = i
  · by_cases hj : j = k
    · rw [if_pos ⟨ha, hj⟩, ha, hj, up2_eq]
    · rw [if_neg (by omega), ha, up2_nj hj]
  · rw [if_neg (by omega), up2_ne ha]
theorem up2_2 {i : Nat} {k v w : Int} : up2 (up2 S i k v) i k w = up2 S i k w := by
  funext a j
  rw [up2_at, up2_at, up2_at]
  by_cases c : a = i ∧ j = k
  · rw [if_pos c, if_pos c]
  · rw [if_neg c, if_neg c, if_neg c]
end RI
