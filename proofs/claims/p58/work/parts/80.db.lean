/-! a dock: its block of thirteen cells, and what it says of the array now -/
def shD : List Sh := [.inl (1, [some (some 1), some (some 11), none, none, none, none, none, none]), .inl (2, [some (some 2), none, none]), .inr (.inr (5, 8, some 3)), .inl (3, [none, none, none, none, none, none, none, none, none]), .inl (3, [none, none, none, none, none, none, none, none, none]), .inl (3, [none, none, none, none, none, none, none, none, none]), .inl (3, [none, none, none, none, none, none, none, none, none]), .inl (3, [none, none, none, none, none, none, none, none, none]), .inl (3, [none, none, none, none, none, none, none, none, none]), .inl (3, [none, none, none, none, none, none, none, none, none]), .inl (3, [none, none, none, none, none, none, none, none, none]), .inl (4, [some (some 12), none]), .inr (.inl (0, 20))]
abbrev HD (Θ : mW) (b : Nat) (D : Nat → Int → Int) (h : mH) : mH := BK Θ shD b D h
/-- the cell of the ship in row k -/
def ro (D : Nat → Int → Int) (k : Int) : Nat := (D 2 k).toNat
section DI
variable {Θ : mW} {b : Nat} {D : Nat → Int → Int} {h : mH}
theorem d_A0 (hb : bOK Θ 13 b h) : rA Θ (HD Θ b D h) 1 b 0 = some (b + 1) := g_rA (i := 0) rfl rfl hb
theorem d_A1 (hb : bOK Θ 13 b h) : rA Θ (HD Θ b D h) 1 b 1 = some (b + 11) := g_rA (i := 0) rfl rfl hb
theorem d_I2 (hb : bOK Θ 13 b h) : rI Θ (HD Θ b D h) 1 b 2 = some (J (D 0 2)) := g_rI (i := 0) rfl rfl hb
theorem d_W2 (hb : bOK Θ 13 b h) {v : Int} : wF Θ (HD Θ b D h) 1 b 2 (.int (J v)) = some (HD Θ b (up2 D 0 2 v) h) := g_wI (i := 0) rfl rfl hb
theorem d_I3 (hb : bOK Θ 13 b h) : rI Θ (HD Θ b D h) 1 b 3 = some (J (D 0 3)) := g_rI (i := 0) rfl rfl hb
theorem d_W3 (hb : bOK Θ 13 b h) {v : Int} : wF Θ (HD Θ b D h) 1 b 3 (.int (J v)) = some (HD Θ b (up2 D 0 3 v) h) := g_wI (i := 0) rfl rfl hb
theorem d_I4 (hb : bOK Θ 13 b h) : rI Θ (HD Θ b D h) 1 b 4 = some (J (D 0 4)) := g_rI (i := 0) rfl rfl hb
theorem d_W4 (hb : bOK Θ 13 b h) {v : Int} : wF Θ (HD Θ b D h) 1 b 4 (.int (J v)) = some (HD Θ b (up2 D 0 4 v) h) := g_wI (i := 0) rfl rfl hb
theorem d_I5 (hb : bOK Θ 13 b h) : rI Θ (HD Θ b D h) 1 b 5 = some (J (D 0 5)) := g_rI (i := 0) rfl rfl hb
theorem d_W5 (hb : bOK Θ 13 b h) {v : Int} : wF Θ (HD Θ b D h) 1 b 5 (.int (J v)) = some (HD Θ b (up2 D 0 5 v) h) := g_wI (i := 0) rfl rfl hb
theorem d_I6 (hb : bOK Θ 13 b h) : rI Θ (HD Θ b D h) 1 b 6 = some (J (D 0 6)) := g_rI (i := 0) rfl rfl hb
theorem d_W6 (hb : bOK Θ 13 b h) {v : Int} : wF Θ (HD Θ b D h) 1 b 6 (.int (J v)) = some (HD Θ b (up2 D 0 6 v) h) := g_wI (i := 0) rfl rfl hb
theorem d_I7 (hb : bOK Θ 13 b h) : rI Θ (HD Θ b D h) 1 b 7 = some (J (D 0 7)) := g_rI (i := 0) rfl rfl hb
theorem d_W7 (hb : bOK Θ 13 b h) {v : Int} : wF Θ (HD Θ b D h) 1 b 7 (.int (J v)) = some (HD Θ b (up2 D 0 7 v) h) := g_wI (i := 0) rfl rfl hb
theorem d_O1 (hb : bOK Θ 13 b h) {ρ : Type} {p : Option ρ} : gO Θ (HD Θ b D h) 1 b p = p := g_gO (i := 0) rfl hb
theorem l_A0 (hb : bOK Θ 13 b h) : rA Θ (HD Θ b D h) 2 (b + 1) 0 = some (b + 2) := g_rA (i := 1) rfl rfl hb
theorem l_I1 (hb : bOK Θ 13 b h) : rI Θ (HD Θ b D h) 2 (b + 1) 1 = some (J (D 1 1)) := g_rI (i := 1) rfl rfl hb
theorem l_W1 (hb : bOK Θ 13 b h) {v : Int} : wF Θ (HD Θ b D h) 2 (b + 1) 1 (.int (J v)) = some (HD Θ b (up2 D 1 1 v) h) := g_wI (i := 1) rfl rfl hb
theorem l_I2 (hb : bOK Θ 13 b h) : rI Θ (HD Θ b D h) 2 (b + 1) 2 = some (J (D 1 2)) := g_rI (i := 1) rfl rfl hb
theorem l_W2 (hb : bOK Θ 13 b h) {v : Int} : wF Θ (HD Θ b D h) 2 (b + 1) 2 (.int (J v)) = some (HD Θ b (up2 D 1 2 v) h) := g_wI (i := 1) rfl rfl hb
theorem l_O (hb : bOK Θ 13 b h) {ρ : Type} {p : Option ρ} : gO Θ (HD Θ b D h) 2 (b + 1) p = p := g_gO (i := 1) rfl hb
theorem l_Q (hb : bOK Θ 13 b h) {x : Int} (h0 : 0 ≤ x) (h1 : x < 8) : aRQ Θ (HD Θ b D h) 5 (b + 2) (J x) = some (b + 3 + ro D x) := g_aRQ (i := 2) (n := 8) rfl (by omega) hb h0 h1
theorem shD_s {s : Nat} (hs : s < 8) : shD[3 + s]? = some (.inl (3, [none, none, none, none, none, none, none, none, none])) := by
  have : s = 0 ∨ s = 1 ∨ s = 2 ∨ s = 3 ∨ s = 4 ∨ s = 5 ∨ s = 6 ∨ s = 7 := by omega
  rcases this with rfl | rfl | rfl | rfl | rfl | rfl | rfl | rfl <;> rfl
theorem l_P (hb : bOK Θ 13 b h) {x : Int} {s : Nat} (hs : s < 8) (h0 : 0 ≤ x) (h1 : x < 8) : aWQ Θ (HD Θ b D h) 5 3 (b + 2) (J x) (b + 3 + s) = some (HD Θ b (up2 D 2 x s) h) := g_aWQ (i := 2) (n := 8) rfl (shD_s hs) (by omega) hb h0 h1
theorem s_I0 (hb : bOK Θ 13 b h) {s : Nat} (hs : s < 8) : rI Θ (HD Θ b D h) 3 (b + 3 + s) 0 = some (J (D (3 + s) 0)) := by rw [Nat.add_assoc]; exact g_rI (shD_s hs) rfl hb
theorem s_W0 (hb : bOK Θ 13 b h) {s : Nat} (hs : s < 8) {v : Int} : wF Θ (HD Θ b D h) 3 (b + 3 + s) 0 (.int (J v)) = some (HD Θ b (up2 D (3 + s) 0 v) h) := by rw [Nat.add_assoc]; exact g_wI (shD_s hs) rfl hb
theorem s_I1 (hb : bOK Θ 13 b h) {s : Nat} (hs : s < 8) : rI Θ (HD Θ b D h) 3 (b + 3 + s) 1 = some (J (D (3 + s) 1)) := by rw [Nat.add_assoc]; exact g_rI (shD_s hs) rfl hb
theorem s_W1 (hb : bOK Θ 13 b h) {s : Nat} (hs : s < 8) {v : Int} : wF Θ (HD Θ b D h) 3 (b + 3 + s) 1 (.int (J v)) = some (HD Θ b (up2 D (3 + s) 1 v) h) := by rw [Nat.add_assoc]; exact g_wI (shD_s hs) rfl hb
theorem s_I2 (hb : bOK Θ 13 b h) {s : Nat} (hs : s < 8) : rI Θ (HD Θ b D h) 3 (b + 3 + s) 2 = some (J (D (3 + s) 2)) := by rw [Nat.add_assoc]; exact g_rI (shD_s hs) rfl hb
theorem s_W2 (hb : bOK Θ 13 b h) {s : Nat} (hs : s < 8) {v : Int} : wF Θ (HD Θ b D h) 3 (b + 3 + s) 2 (.int (J v)) = some (HD Θ b (up2 D (3 + s) 2 v) h) := by rw [Nat.add_assoc]; exact g_wI (shD_s hs) rfl hb
theorem s_I3 (hb : bOK Θ 13 b h) {s : Nat} (hs : s < 8) : rI Θ (HD Θ b D h) 3 (b + 3 + s) 3 = some (J (D (3 + s) 3)) := by rw [Nat.add_assoc]; exact g_rI (shD_s hs) rfl hb
theorem s_W3 (hb : bOK Θ 13 b h) {s : Nat} (hs : s < 8) {v : Int} : wF Θ (HD Θ b D h) 3 (b + 3 + s) 3 (.int (J v)) = some (HD Θ b (up2 D (3 + s) 3 v) h) := by rw [Nat.add_assoc]; exact g_wI (shD_s hs) rfl hb
theorem s_I4 (hb : bOK Θ 13 b h) {s : Nat} (hs : s < 8) : rI Θ (HD Θ b D h) 3 (b + 3 + s) 4 = some (J (D (3 + s) 4)) := by rw [Nat.add_assoc]; exact g_rI (shD_s hs) rfl hb
theorem s_W4 (hb : bOK Θ 13 b h) {s : Nat} (hs : s < 8) {v : Int} : wF Θ (HD Θ b D h) 3 (b + 3 + s) 4 (.int (J v)) = some (HD Θ b (up2 D (3 + s) 4 v) h) := by rw [Nat.add_assoc]; exact g_wI (shD_s hs) rfl hb
theorem s_I5 (hb : bOK Θ 13 b h) {s : Nat} (hs : s < 8) : rI Θ (HD Θ b D h) 3 (b + 3 + s) 5 = some (J (D (3 + s) 5)) := by rw [Nat.add_assoc]; exact g_rI (shD_s hs) rfl hb
theorem s_W5 (hb : bOK Θ 13 b h) {s : Nat} (hs : s < 8) {v : Int} : wF Θ (HD Θ b D h) 3 (b + 3 + s) 5 (.int (J v)) = some (HD Θ b (up2 D (3 + s) 5 v) h) := by rw [Nat.add_assoc]; exact g_wI (shD_s hs) rfl hb
theorem s_I6 (hb : bOK Θ 13 b h) {s : Nat} (hs : s < 8) : rI Θ (HD Θ b D h) 3 (b + 3 + s) 6 = some (J (D (3 + s) 6)) := by rw [Nat.add_assoc]; exact g_rI (shD_s hs) rfl hb
theorem s_W6 (hb : bOK Θ 13 b h) {s : Nat} (hs : s < 8) {v : Int} : wF Θ (HD Θ b D h) 3 (b + 3 + s) 6 (.int (J v)) = some (HD Θ b (up2 D (3 + s) 6 v) h) := by rw [Nat.add_assoc]; exact g_wI (shD_s hs) rfl hb
theorem s_I7 (hb : bOK Θ 13 b h) {s : Nat} (hs : s < 8) : rI Θ (HD Θ b D h) 3 (b + 3 + s) 7 = some (J (D (3 + s) 7)) := by rw [Nat.add_assoc]; exact g_rI (shD_s hs) rfl hb
theorem s_W7 (hb : bOK Θ 13 b h) {s : Nat} (hs : s < 8) {v : Int} : wF Θ (HD Θ b D h) 3 (b + 3 + s) 7 (.int (J v)) = some (HD Θ b (up2 D (3 + s) 7 v) h) := by rw [Nat.add_assoc]; exact g_wI (shD_s hs) rfl hb
theorem s_I8 (hb : bOK Θ 13 b h) {s : Nat} (hs : s < 8) : rI Θ (HD Θ b D h) 3 (b + 3 + s) 8 = some (J (D (3 + s) 8)) := by rw [Nat.add_assoc]; exact g_rI (shD_s hs) rfl hb
theorem s_W8 (hb : bOK Θ 13 b h) {s : Nat} (hs : s < 8) {v : Int} : wF Θ (HD Θ b D h) 3 (b + 3 + s) 8 (.int (J v)) = some (HD Θ b (up2 D (3 + s) 8 v) h) := by rw [Nat.add_assoc]; exact g_wI (shD_s hs) rfl hb
theorem s_O (hb : bOK Θ 13 b h) {s : Nat} (hs : s < 8) {ρ : Type} {p : Option ρ} : gO Θ (HD Θ b D h) 3 (b + 3 + s) p = p := by rw [Nat.add_assoc]; exact g_gO (shD_s hs) hb
theorem b_A0 (hb : bOK Θ 13 b h) : rA Θ (HD Θ b D h) 4 (b + 11) 0 = some (b + 12) := g_rA (i := 11) rfl rfl hb
theorem b_I1 (hb : bOK Θ 13 b h) : rI Θ (HD Θ b D h) 4 (b + 11) 1 = some (J (D 11 1)) := g_rI (i := 11) rfl rfl hb
theorem b_W1 (hb : bOK Θ 13 b h) {v : Int} : wF Θ (HD Θ b D h) 4 (b + 11) 1 (.int (J v)) = some (HD Θ b (up2 D 11 1 v) h) := g_wI (i := 11) rfl rfl hb
theorem b_O (hb : bOK Θ 13 b h) {ρ : Type} {p : Option ρ} : gO Θ (HD Θ b D h) 4 (b + 11) p = p := g_gO (i := 11) rfl hb
theorem b_a (hb : bOK Θ 13 b h) {x : Int} (h0 : 0 ≤ x) (h1 : x < 20) : aR Θ (HD Θ b D h) 0 (b + 12) (J x) = some (J (D 12 x)) := g_aR (i := 12) (n := 20) rfl (by omega) hb h0 h1
theorem b_w (hb : bOK Θ 13 b h) {x v : Int} (h0 : 0 ≤ x) (h1 : x < 20) : aW Θ (HD Θ b D h) 0 (b + 12) (J x) (J v) = some (HD Θ b (up2 D 12 x v) h) := g_aW (i := 12) (n := 20) rfl (by omega) hb h0 h1
end DI
/-- which field of a ship holds the reference's i-th number -/
def sf (i : Int) : Int := if i = 4 then 7 else if i = 5 then 8 else if i = 6 then 4 else if i = 7 then 5 else if i = 8 then 6 else i
/-- the dock's cells say what the array says -/
def DV (D : Nat → Int → Int) (V : Int → Int) : Prop :=
  (D 0 5 = V 0 ∧ D 0 2 = V 1 ∧ D 0 3 = V 2 ∧ D 0 4 = V 3 ∧ D 1 1 = V 4 ∧ D 1 2 = V 5 ∧ D 0 6 = V 6 ∧ D 0 7 = V 7) ∧
  ((∀ k : Int, 0 ≤ k → k < 8 → 0 ≤ D 2 k ∧ D 2 k < 8) ∧ (∀ k l : Int, 0 ≤ k → k < 8 → 0 ≤ l → l < 8 → D 2 k = D 2 l → k = l)) ∧
  (∀ k : Int, 0 ≤ k → k < V 4 → ∀ i : Int, 0 ≤ i → i ≤ 8 → D (3 + ro D k) (sf i) = fd V k i) ∧
  (0 ≤ D 11 1 ∧ D 11 1 = blk V 60 ∧ (∀ i : Int, 0 ≤ i → i < D 11 1 → 0 ≤ D 12 i ∧ D 12 i < 60) ∧ (∀ i j : Int, 0 ≤ i → i < j → j < D 11 1 → D 12 i ≠ D 12 j) ∧ (∀ p : Int, 0 ≤ p → p < 60 → (V (80 + p) = 1 ↔ ∃ i : Int, 0 ≤ i ∧ i < D 11 1 ∧ D 12 i = p)))
section DW
variable {Θ : mW} {b : Nat} {D : Nat → Int → Int} {V : Int → Int} {h : mH}
theorem DV.sc (d : DV D V) : D 0 5 = V 0 ∧ D 0 2 = V 1 ∧ D 0 3 = V 2 ∧ D 0 4 = V 3 ∧ D 1 1 = V 4 ∧ D 1 2 = V 5 ∧ D 0 6 = V 6 ∧ D 0 7 = V 7 := d.1
theorem DV.rlt (d : DV D V) {k : Int} (h0 : 0 ≤ k) (h1 : k < 8) : ro D k < 8 := by
  have := d.2.1.1 k h0 h1
  unfold ro
  omega
theorem DV.inj (d : DV D V) {k l : Int} (h0 : 0 ≤ k) (h1 : k < 8) (h2 : 0 ≤ l) (h3 : l < 8) (he : ro D k = ro D l) : k = l := by
  have a := d.2.1.1 k h0 h1
  have b := d.2.1.1 l h2 h3
  unfold ro at he
  exact d.2.1.2 k l h0 h1 h2 h3 (by omega)
theorem DV.bl (d : DV D V) : 0 ≤ D 11 1 ∧ D 11 1 = blk V 60 ∧ (∀ i : Int, 0 ≤ i → i < D 11 1 → 0 ≤ D 12 i ∧ D 12 i < 60) ∧ (∀ i j : Int, 0 ≤ i → i < j → j < D 11 1 → D 12 i ≠ D 12 j) ∧ (∀ p : Int, 0 ≤ p → p < 60 → (V (80 + p) = 1 ↔ ∃ i : Int, 0 ≤ i ∧ i < D 11 1 ∧ D 12 i = p)) := d.2.2.2
theorem DV.f0 (d : DV D V) {k : Int} (h0 : 0 ≤ k) (h1 : k < V 4) : D (3 + ro D k) 0 = fd V k 0 := d.2.2.1 k h0 h1 0 (by omega) (by omega)
theorem DV.f1 (d : DV D V) {k : Int} (h0 : 0 ≤ k) (h1 : k < V 4) : D (3 + ro D k) 1 = fd V k 1 := d.2.2.1 k h0 h1 1 (by omega) (by omega)
theorem DV.f2 (d : DV D V) {k : Int} (h0 : 0 ≤ k) (h1 : k < V 4) : D (3 + ro D k) 2 = fd V k 2 := d.2.2.1 k h0 h1 2 (by omega) (by omega)
theorem DV.f3 (d : DV D V) {k : Int} (h0 : 0 ≤ k) (h1 : k < V 4) : D (3 + ro D k) 3 = fd V k 3 := d.2.2.1 k h0 h1 3 (by omega) (by omega)
theorem DV.f4 (d : DV D V) {k : Int} (h0 : 0 ≤ k) (h1 : k < V 4) : D (3 + ro D k) 7 = fd V k 4 := d.2.2.1 k h0 h1 4 (by omega) (by omega)
theorem DV.f5 (d : DV D V) {k : Int} (h0 : 0 ≤ k) (h1 : k < V 4) : D (3 + ro D k) 8 = fd V k 5 := d.2.2.1 k h0 h1 5 (by omega) (by omega)
theorem DV.f6 (d : DV D V) {k : Int} (h0 : 0 ≤ k) (h1 : k < V 4) : D (3 + ro D k) 4 = fd V k 6 := d.2.2.1 k h0 h1 6 (by omega) (by omega)
theorem DV.f7 (d : DV D V) {k : Int} (h0 : 0 ≤ k) (h1 : k < V 4) : D (3 + ro D k) 5 = fd V k 7 := d.2.2.1 k h0 h1 7 (by omega) (by omega)
theorem DV.f8 (d : DV D V) {k : Int} (h0 : 0 ≤ k) (h1 : k < V 4) : D (3 + ro D k) 6 = fd V k 8 := d.2.2.1 k h0 h1 8 (by omega) (by omega)
theorem v_I0 (hb : bOK Θ 13 b h) (d : DV D V) {k : Int} (h0 : 0 ≤ k) (h1 : k < V 4) (h2 : V 4 ≤ 8) : rI Θ (HD Θ b D h) 3 (b + 3 + ro D k) 0 = some (J (fd V k 0)) := by rw [s_I0 hb (d.rlt h0 (by omega)), d.f0 h0 h1]
theorem v_W0 (hb : bOK Θ 13 b h) (d : DV D V) {k v : Int} (h0 : 0 ≤ k) (h1 : k < V 4) (h2 : V 4 ≤ 8) : wF Θ (HD Θ b D h) 3 (b + 3 + ro D k) 0 (.int (J v)) = some (HD Θ b (up2 D (3 + ro D k) 0 v) h) := s_W0 hb (d.rlt h0 (by omega))
theorem v_I1 (hb : bOK Θ 13 b h) (d : DV D V) {k : Int} (h0 : 0 ≤ k) (h1 : k < V 4) (h2 : V 4 ≤ 8) : rI Θ (HD Θ b D h) 3 (b + 3 + ro D k) 1 = some (J (fd V k 1)) := by rw [s_I1 hb (d.rlt h0 (by omega)), d.f1 h0 h1]
theorem v_W1 (hb : bOK Θ 13 b h) (d : DV D V) {k v : Int} (h0 : 0 ≤ k) (h1 : k < V 4) (h2 : V 4 ≤ 8) : wF Θ (HD Θ b D h) 3 (b + 3 + ro D k) 1 (.int (J v)) = some (HD Θ b (up2 D (3 + ro D k) 1 v) h) := s_W1 hb (d.rlt h0 (by omega))
theorem v_I2 (hb : bOK Θ 13 b h) (d : DV D V) {k : Int} (h0 : 0 ≤ k) (h1 : k < V 4) (h2 : V 4 ≤ 8) : rI Θ (HD Θ b D h) 3 (b + 3 + ro D k) 2 = some (J (fd V k 2)) := by rw [s_I2 hb (d.rlt h0 (by omega)), d.f2 h0 h1]
theorem v_W2 (hb : bOK Θ 13 b h) (d : DV D V) {k v : Int} (h0 : 0 ≤ k) (h1 : k < V 4) (h2 : V 4 ≤ 8) : wF Θ (HD Θ b D h) 3 (b + 3 + ro D k) 2 (.int (J v)) = some (HD Θ b (up2 D (3 + ro D k) 2 v) h) := s_W2 hb (d.rlt h0 (by omega))
theorem v_I3 (hb : bOK Θ 13 b h) (d : DV D V) {k : Int} (h0 : 0 ≤ k) (h1 : k < V 4) (h2 : V 4 ≤ 8) : rI Θ (HD Θ b D h) 3 (b + 3 + ro D k) 3 = some (J (fd V k 3)) := by rw [s_I3 hb (d.rlt h0 (by omega)), d.f3 h0 h1]
theorem v_W3 (hb : bOK Θ 13 b h) (d : DV D V) {k v : Int} (h0 : 0 ≤ k) (h1 : k < V 4) (h2 : V 4 ≤ 8) : wF Θ (HD Θ b D h) 3 (b + 3 + ro D k) 3 (.int (J v)) = some (HD Θ b (up2 D (3 + ro D k) 3 v) h) := s_W3 hb (d.rlt h0 (by omega))
theorem v_I4 (hb : bOK Θ 13 b h) (d : DV D V) {k : Int} (h0 : 0 ≤ k) (h1 : k < V 4) (h2 : V 4 ≤ 8) : rI Θ (HD Θ b D h) 3 (b + 3 + ro D k) 7 = some (J (fd V k 4)) := by rw [s_I7 hb (d.rlt h0 (by omega)), d.f4 h0 h1]
theorem v_W4 (hb : bOK Θ 13 b h) (d : DV D V) {k v : Int} (h0 : 0 ≤ k) (h1 : k < V 4) (h2 : V 4 ≤ 8) : wF Θ (HD Θ b D h) 3 (b + 3 + ro D k) 7 (.int (J v)) = some (HD Θ b (up2 D (3 + ro D k) 7 v) h) := s_W7 hb (d.rlt h0 (by omega))
theorem v_I5 (hb : bOK Θ 13 b h) (d : DV D V) {k : Int} (h0 : 0 ≤ k) (h1 : k < V 4) (h2 : V 4 ≤ 8) : rI Θ (HD Θ b D h) 3 (b + 3 + ro D k) 8 = some (J (fd V k 5)) := by rw [s_I8 hb (d.rlt h0 (by omega)), d.f5 h0 h1]
theorem v_W5 (hb : bOK Θ 13 b h) (d : DV D V) {k v : Int} (h0 : 0 ≤ k) (h1 : k < V 4) (h2 : V 4 ≤ 8) : wF Θ (HD Θ b D h) 3 (b + 3 + ro D k) 8 (.int (J v)) = some (HD Θ b (up2 D (3 + ro D k) 8 v) h) := s_W8 hb (d.rlt h0 (by omega))
theorem v_I6 (hb : bOK Θ 13 b h) (d : DV D V) {k : Int} (h0 : 0 ≤ k) (h1 : k < V 4) (h2 : V 4 ≤ 8) : rI Θ (HD Θ b D h) 3 (b + 3 + ro D k) 4 = some (J (fd V k 6)) := by rw [s_I4 hb (d.rlt h0 (by omega)), d.f6 h0 h1]
theorem v_W6 (hb : bOK Θ 13 b h) (d : DV D V) {k v : Int} (h0 : 0 ≤ k) (h1 : k < V 4) (h2 : V 4 ≤ 8) : wF Θ (HD Θ b D h) 3 (b + 3 + ro D k) 4 (.int (J v)) = some (HD Θ b (up2 D (3 + ro D k) 4 v) h) := s_W4 hb (d.rlt h0 (by omega))
theorem v_I7 (hb : bOK Θ 13 b h) (d : DV D V) {k : Int} (h0 : 0 ≤ k) (h1 : k < V 4) (h2 : V 4 ≤ 8) : rI Θ (HD Θ b D h) 3 (b + 3 + ro D k) 5 = some (J (fd V k 7)) := by rw [s_I5 hb (d.rlt h0 (by omega)), d.f7 h0 h1]
theorem v_W7 (hb : bOK Θ 13 b h) (d : DV D V) {k v : Int} (h0 : 0 ≤ k) (h1 : k < V 4) (h2 : V 4 ≤ 8) : wF Θ (HD Θ b D h) 3 (b + 3 + ro D k) 5 (.int (J v)) = some (HD Θ b (up2 D (3 + ro D k) 5 v) h) := s_W5 hb (d.rlt h0 (by omega))
theorem v_I8 (hb : bOK Θ 13 b h) (d : DV D V) {k : Int} (h0 : 0 ≤ k) (h1 : k < V 4) (h2 : V 4 ≤ 8) : rI Θ (HD Θ b D h) 3 (b + 3 + ro D k) 6 = some (J (fd V k 8)) := by rw [s_I6 hb (d.rlt h0 (by omega)), d.f8 h0 h1]
theorem v_W8 (hb : bOK Θ 13 b h) (d : DV D V) {k v : Int} (h0 : 0 ≤ k) (h1 : k < V 4) (h2 : V 4 ≤ 8) : wF Θ (HD Θ b D h) 3 (b + 3 + ro D k) 6 (.int (J v)) = some (HD Θ b (up2 D (3 + ro D k) 6 v) h) := s_W6 hb (d.rlt h0 (by omega))
theorem v_O (hb : bOK Θ 13 b h) (d : DV D V) {k : Int} (h0 : 0 ≤ k) (h1 : k < 8) {ρ : Type} {p : Option ρ} : gO Θ (HD Θ b D h) 3 (b + 3 + ro D k) p = p := s_O hb (d.rlt h0 h1)
theorem v_S0 (hb : bOK Θ 13 b h) (d : DV D V) : rI Θ (HD Θ b D h) 1 b 5 = some (J (V 0)) := by rw [d_I5 hb, d.1.1]
theorem v_S1 (hb : bOK Θ 13 b h) (d : DV D V) : rI Θ (HD Θ b D h) 1 b 2 = some (J (V 1)) := by rw [d_I2 hb, d.1.2.1]
theorem v_S2 (hb : bOK Θ 13 b h) (d : DV D V) : rI Θ (HD Θ b D h) 1 b 3 = some (J (V 2)) := by rw [d_I3 hb, d.1.2.2.1]
theorem v_S3 (hb : bOK Θ 13 b h) (d : DV D V) : rI Θ (HD Θ b D h) 1 b 4 = some (J (V 3)) := by rw [d_I4 hb, d.1.2.2.2.1]
theorem v_S4 (hb : bOK Θ 13 b h) (d : DV D V) : rI Θ (HD Θ b D h) 2 (b + 1) 1 = some (J (V 4)) := by rw [l_I1 hb, d.1.2.2.2.2.1]
theorem v_S5 (hb : bOK Θ 13 b h) (d : DV D V) : rI Θ (HD Θ b D h) 2 (b + 1) 2 = some (J (V 5)) := by rw [l_I2 hb, d.1.2.2.2.2.2.1]
theorem v_S6 (hb : bOK Θ 13 b h) (d : DV D V) : rI Θ (HD Θ b D h) 1 b 6 = some (J (V 6)) := by rw [d_I6 hb, d.1.2.2.2.2.2.2.1]
theorem v_S7 (hb : bOK Θ 13 b h) (d : DV D V) : rI Θ (HD Θ b D h) 1 b 7 = some (J (V 7)) := by rw [d_I7 hb, d.1.2.2.2.2.2.2.2]
end DW
