/-! the class's packing -/
def shG : List Sh := [.inl (6, [some (some 1), none, some (some 2), none, some (some 3), some (some 4)]), .inr (.inl (0, 9)), .inr (.inl (0, 8)), .inr (.inl (0, 256)), .inr (.inl (1, 256))]
abbrev HG (Θ : mW) (g : Nat) (E : Nat → Int → Int) (h : mH) : mH := BK Θ shG g E h
theorem J_and (a b : Nat) : J a &&& J b = J ((a &&& b : Nat) : Int) := Int32.toBitVec_inj.mp (by
  show BitVec.ofInt 32 a &&& BitVec.ofInt 32 b = BitVec.ofInt 32 ((a &&& b : Nat) : Int)
  rw [BitVec.ofInt_natCast, BitVec.ofInt_natCast, BitVec.ofInt_natCast, BitVec.ofNat_and])
theorem J_xor (a b : Nat) : J a ^^^ J b = J ((a ^^^ b : Nat) : Int) := Int32.toBitVec_inj.mp (by
  show BitVec.ofInt 32 a ^^^ BitVec.ofInt 32 b = BitVec.ofInt 32 ((a ^^^ b : Nat) : Int)
  rw [BitVec.ofInt_natCast, BitVec.ofInt_natCast, BitVec.ofInt_natCast, BitVec.ofNat_xor])
theorem J_shl : ∀ n : Fin 9, J 1 <<< (J ((n : Nat) : Int) &&& 31) = J ((2 ^ (n : Nat) : Nat) : Int) := by decide +kernel
theorem J_shl' {n : Nat} (h : n ≤ 8) : J 1 <<< (J n &&& 31) = J ((2 ^ n : Nat) : Int) := J_shl ⟨n, by omega⟩
theorem J_bit : ∀ s : Fin 256, ∀ k : Fin 8, ((J ((s : Nat) : Int) >>> (J ((k : Nat) : Int) &&& 31)) &&& J 1) = J (if Nat.testBit s k = true then 1 else 0) := by decide +kernel
theorem J_bit' {s k : Nat} (h1 : s < 256) (h2 : k < 8) : ((J s >>> (J k &&& 31)) &&& J 1) = J (if tb s k = true then 1 else 0) := J_bit ⟨s, h1⟩ ⟨k, h2⟩
section G0
variable {Θ : mW} {N g : Nat} {E : Nat → Int → Int} {h : mH}
theorem gf_A0 (hb : bOK Θ 5 g h) : rA Θ (HG Θ g E h) 6 g 0 = some (g + 1) := g_rA (i := 0) rfl rfl hb
theorem gf_I1 (hb : bOK Θ 5 g h) : rI Θ (HG Θ g E h) 6 g 1 = some (J (E 0 1)) := g_rI (i := 0) rfl rfl hb
theorem gf_W1 (hb : bOK Θ 5 g h) {v : Int} : wF Θ (HG Θ g E h) 6 g 1 (.int (J v)) = some (HG Θ g (up2 E 0 1 v) h) := g_wI (i := 0) rfl rfl hb
theorem gf_A2 (hb : bOK Θ 5 g h) : rA Θ (HG Θ g E h) 6 g 2 = some (g + 2) := g_rA (i := 0) rfl rfl hb
theorem gf_I3 (hb : bOK Θ 5 g h) : rI Θ (HG Θ g E h) 6 g 3 = some (J (E 0 3)) := g_rI (i := 0) rfl rfl hb
theorem gf_W3 (hb : bOK Θ 5 g h) {v : Int} : wF Θ (HG Θ g E h) 6 g 3 (.int (J v)) = some (HG Θ g (up2 E 0 3 v) h) := g_wI (i := 0) rfl rfl hb
theorem gf_A4 (hb : bOK Θ 5 g h) : rA Θ (HG Θ g E h) 6 g 4 = some (g + 3) := g_rA (i := 0) rfl rfl hb
theorem gf_A5 (hb : bOK Θ 5 g h) : rA Θ (HG Θ g E h) 6 g 5 = some (g + 4) := g_rA (i := 0) rfl rfl hb
theorem gf_O (hb : bOK Θ 5 g h) {ρ : Type} {p : Option ρ} : gO Θ (HG Θ g E h) 6 g p = p := g_gO (i := 0) rfl hb
theorem gf_a1 (hb : bOK Θ 5 g h) {x : Int} (h0 : 0 ≤ x) (h1 : x < 9) : aR Θ (HG Θ g E h) 0 (g + 1) (J x) = some (J (E 1 x)) := g_aR (i := 1) (n := 9) rfl (by omega) hb h0 h1
theorem gf_w1 (hb : bOK Θ 5 g h) {x v : Int} (h0 : 0 ≤ x) (h1 : x < 9) : aW Θ (HG Θ g E h) 0 (g + 1) (J x) (J v) = some (HG Θ g (up2 E 1 x v) h) := g_aW (i := 1) (n := 9) rfl (by omega) hb h0 h1
theorem gf_n1 (hb : bOK Θ 5 g h) : aN Θ (HG Θ g E h) (g + 1) = some (J 9) := g_aN (i := 1) (n := 9) rfl (by omega) hb
theorem gf_a2 (hb : bOK Θ 5 g h) {x : Int} (h0 : 0 ≤ x) (h1 : x < 8) : aR Θ (HG Θ g E h) 0 (g + 2) (J x) = some (J (E 2 x)) := g_aR (i := 2) (n := 8) rfl (by omega) hb h0 h1
theorem gf_w2 (hb : bOK Θ 5 g h) {x v : Int} (h0 : 0 ≤ x) (h1 : x < 8) : aW Θ (HG Θ g E h) 0 (g + 2) (J x) (J v) = some (HG Θ g (up2 E 2 x v) h) := g_aW (i := 2) (n := 8) rfl (by omega) hb h0 h1
theorem gf_a3 (hb : bOK Θ 5 g h) {x : Int} (h0 : 0 ≤ x) (h1 : x < 256) : aR Θ (HG Θ g E h) 0 (g + 3) (J x) = some (J (E 3 x)) := g_aR (i := 3) (n := 256) rfl (by omega) hb h0 h1
theorem gf_w3 (hb : bOK Θ 5 g h) {x v : Int} (h0 : 0 ≤ x) (h1 : x < 256) : aW Θ (HG Θ g E h) 0 (g + 3) (J x) (J v) = some (HG Θ g (up2 E 3 x v) h) := g_aW (i := 3) (n := 256) rfl (by omega) hb h0 h1
theorem gf_a4 (hb : bOK Θ 5 g h) {x : Int} (h0 : 0 ≤ x) (h1 : x < 256) : aR Θ (HG Θ g E h) 1 (g + 4) (J x) = some (J (E 4 x)) := g_aR (i := 4) (n := 256) rfl (by omega) hb h0 h1
theorem gf_w4 (hb : bOK Θ 5 g h) {x v : Int} (h0 : 0 ≤ x) (h1 : x < 256) (hv : v = 0 ∨ v = 1) : aW Θ (HG Θ g E h) 1 (g + 4) (J x) (vp_nar .boolean (J v)) = some (HG Θ g (up2 E 4 x v) h) := by rw [nar_bool hv]; exact g_aW (i := 4) (n := 256) rfl (by omega) hb h0 h1
end G0
/-! who waits, which gaps there are -/
section G1
variable {G H M : Int} {V : Int → Int}
def wtg (V : Int → Int) (k : Int) : Prop := fd V k 4 = -1 ∧ fd V k 2 + 2 ≤ V 1
def wlist (V : Int → Int) : Nat → List Int
  | 0 => []
  | k + 1 => if fd V k 4 = -1 ∧ fd V k 2 + 2 ≤ V 1 then wlist V k ++ [fd V k 1] else wlist V k
theorem wlist_len : ∀ n : Nat, (wlist V n).length ≤ n
  | 0 => by simp [wlist]
  | n + 1 => by
    have := wlist_len n
    rw [wlist]
    split
    · rw [List.length_append]; simp; omega
    · omega
theorem wlist_mem (I : Inv G H M V) : ∀ n : Nat, (n : Int) ≤ V 4 → ∀ x, x ∈ wlist V n → 5 ≤ x ∧ x ≤ 30
  | 0, _, x, h => by cases h
  | n + 1, hn, x, h => by
    have sh := I.sh n (by omega) (by omega)
    unfold shOK at sh
    rw [wlist] at h
    split at h
    · rcases List.mem_append.mp h with h | h
      · exact wlist_mem I n (by omega) x h
      · rw [List.mem_singleton.mp h]
        exact sh.2.1
    · exact wlist_mem I n (by omega) x h
def gsc (V : Int → Int) : Nat → Int × List Int
  | 0 => (0, [])
  | p + 1 => if at' V p = -1 then ((gsc V p).1 + 1, (gsc V p).2) else (0, if 0 < (gsc V p).1 then (gsc V p).2 ++ [(gsc V p).1] else (gsc V p).2)
def gps (V : Int → Int) : List Int := if 0 < (gsc V 60).1 then (gsc V 60).2 ++ [(gsc V 60).1] else (gsc V 60).2
theorem gsc_rng : ∀ p : Nat, (0 ≤ (gsc V p).1 ∧ (gsc V p).1 ≤ p) ∧ (0 < (gsc V p).1 → at' V ((p : Int) - 1) = -1) ∧ ∀ g, g ∈ (gsc V p).2 → 0 < g ∧ g ≤ p
  | 0 => ⟨by simp [gsc], fun h => by simp [gsc] at h, fun g h => by simp [gsc] at h⟩
  | p + 1 => by
    obtain ⟨a, b, c⟩ := gsc_rng p
    rw [gsc]
    by_cases e : at' V p = -1
    · rw [if_pos e]
      refine ⟨by dsimp only; omega, fun _ => ?_, fun g h => ?_⟩
      · rw [show ((p + 1 : Nat) : Int) - 1 = p by omega]; exact e
      · have := c g h; omega
    · rw [if_neg e]
      refine ⟨by dsimp only; omega, fun h => by dsimp only at h; omega, fun g h => ?_⟩
      dsimp only at h
      split at h
      · rcases List.mem_append.mp h with h | h
        · have := c g h; omega
        · rw [List.mem_singleton.mp h]; omega
      · have := c g h; omega
def stb (V : Int → Int) (p : Int) (k : Int) : Bool := decide (fd V k 4 ≠ -1 ∧ fd V k 4 < p)
theorem gsc_len (I : Inv G H M V) : ∀ p : Nat, ((gsc V p).2.length : Int) ≤ cnt (stb V p) (mny V)
  | 0 => by
    have := cnt_rng (f := stb V (0 : Nat)) (mny V)
    simp only [gsc, List.length_nil]
    omega
  | p + 1 => by
    have ih := gsc_len I p
    obtain ⟨a, b, -⟩ := gsc_rng (V := V) p
    have mono : cnt (stb V p) (mny V) ≤ cnt (stb V ((p + 1 : Nat) : Int)) (mny V) := cnt_le (mny V) (fun k hk x => by
      unfold stb at x ⊢
      rw [decide_eq_true_eq] at x ⊢
      omega)
    rw [gsc]
    by_cases e : at' V p = -1
    · rw [if_pos e]
      dsimp only
      omega
    · rw [if_neg e]
      dsimp only
      by_cases f : 0 < (gsc V p).1
      · rw [if_pos f, List.length_append, List.length_singleton]
        have e0 := b f
        have hc := atm_cov (V := V) (p := (p : Int)) (mny V) (show at' V p ≠ -1 from e)
        have hr := atm_le (V := V) (p := (p : Int)) (mny V)
        have hk : atm V p (mny V) = at' V p := rfl
        rw [hk] at hc hr
        unfold cov at hc
        have hn : ¬ fd V (at' V p) 4 < p := fun q => at_none.mp e0 (at' V p) (by omega) (by have := I.h4; unfold mny at hr; omega) (by unfold cov; omega)
        have := cnt_lt (f := stb V p) (g := stb V ((p + 1 : Nat) : Int)) (q := (at' V p).toNat) (mny V) (fun k hk x => by
          unfold stb at x ⊢
          rw [decide_eq_true_eq] at x ⊢
          omega) (by omega) (by rw [Int.toNat_of_nonneg (by omega)]; unfold stb; simp; omega) (by rw [Int.toNat_of_nonneg (by omega)]; unfold stb; simp; omega)
        omega
      · rw [if_neg f]
        omega
theorem gsc_8 (I : Inv G H M V) (p : Nat) : (gsc V p).2.length ≤ 8 := by
  have := gsc_len I p
  have := cnt_rng (f := stb V p) (mny V)
  have := I.h4
  unfold mny at *
  omega
theorem gps_rng : ∀ g, g ∈ gps V → 0 ≤ g ∧ g ≤ 60 := by
  intro g h
  obtain ⟨a, -, c⟩ := gsc_rng (V := V) 60
  unfold gps at h
  split at h
  · rcases List.mem_append.mp h with h | h
    · have := c g h; omega
    · rw [List.mem_singleton.mp h]; omega
  · have := c g h; omega
theorem gps_9 (I : Inv G H M V) : (gps V).length ≤ 9 := by
  have := gsc_8 I 60
  unfold gps
  split
  · rw [List.length_append]; simp; omega
  · omega
end G1
section G2
variable {Θ : mW} {N g b : Nat} {E : Nat → Int → Int} {D : Nat → Int → Int} {V : Int → Int} {h : mH} {G H M : Int}
def WLs (E : Nat → Int → Int) (l : List Int) : Prop := E 0 3 = l.length ∧ wl (E 2) l.length 0 = l
def GLs (E : Nat → Int → Int) (l : List Int) : Prop := E 0 1 = l.length ∧ wl (E 1) l.length 0 = l
/-- a dock beside -/
theorem g_dock (hb : bOK Θ 5 g h) (hs : HB Θ shD b D h) (hx : g + 5 ≤ b ∨ b + 13 ≤ g) (E : Nat → Int → Int) : HB Θ shD b D (HG Θ g E h) := hs.other hb (by show b + 13 ≤ g ∨ g + 5 ≤ b; omega)
theorem c_addGap (hb : bOK Θ 5 g h) {l : List Int} (hl : GLs E l) (h8 : l.length ≤ 8) {x : Int} (x1 : 0 ≤ x) (x2 : x ≤ 1000) : ∃ E', P_G_addGap Θ N (HG Θ g E h) g (J x) = some ((), HG Θ g E' h) ∧ GLs E' (if 0 < x then l ++ [x] else l) ∧ E' 0 3 = E 0 3 ∧ E' 2 = E 2 := by
  unfold P_G_addGap
  by_cases c : 0 < x
  · have hn := hl.1
    rw [if_neg (by rw [J_0, J_le] <;> omega), if_pos c, gf_I1 hb, bo_some, gf_A0 hb, bo_some, gf_n1 hb, bo_some, if_neg (by rw [J_le] <;> omega)]
    simp (disch := omega) only [gf_A0 hb, gf_I1 hb, bo_some, gf_w1 hb, J_add, gf_W1 hb, up2_ne]
    refine ⟨_, rfl, ⟨?_, ?_⟩, ?_, ?_⟩
    · rw [up2_eq, List.length_append]
      simp
      omega
    · rw [List.length_append, List.length_singleton, wl_snoc, up2_row (by omega)]
      have e1 : (up2 E 1 (E 0 1) x) 1 (0 + (l.length : Int)) = x := by rw [show (0 : Int) + l.length = E 0 1 by omega, up2_eq]
      rw [e1, wl_ext (g := E 1) l.length 0 (fun j a b => by rw [up2_nj (by omega)]), hl.2]
    · rw [up2_nj (by omega), up2_ne (by omega)]
    · rw [up2_row (by omega), up2_row (by omega)]
  · rw [if_pos (by rw [J_0, J_le] <;> omega), if_neg c]
    exact ⟨E, rfl, hl, rfl, rfl⟩
theorem c_survW_L (hN : 2000 ≤ N) (hb : bOK Θ 5 g h) (hs : HB Θ shD b D h) (hx : g + 5 ≤ b ∨ b + 13 ≤ g) (hd : DV D V) (I : Inv G H M V) {K : mH → Option (Unit × mH)} : ∀ (r j n : Nat) (E : Nat → Int → Int), (j : Int) + r = V 4 → r < n → WLs E (wlist V j) → ∃ E', P_G_survey_7 Θ N K g b n (HG Θ g E h) (J j) = K (HG Θ g E' h) ∧ WLs E' (wlist V (mny V)) := by
  intro r
  have h4 := I.h4
  have hsE := g_dock hb hs hx
  have q0 : ∀ E, rA Θ (HG Θ g E h) 1 b 0 = some (b + 1) := fun E => HB.xA (hsE E) (i := 0) rfl rfl
  have q1 : ∀ E, rI Θ (HG Θ g E h) 2 (b + 1) 1 = some (J (V 4)) := fun E => by
    rw [← hd.sc.2.2.2.2.1]
    exact HB.xI (hsE E) (i := 1) rfl rfl
  have q2 : ∀ E, rA Θ (HG Θ g E h) 2 (b + 1) 0 = some (b + 2) := fun E => HB.xA (hsE E) (i := 1) rfl rfl
  have q3 : ∀ E (x : Int), 0 ≤ x → x < 8 → aRQ Θ (HG Θ g E h) 5 (b + 2) (J x) = some (b + 3 + ro D x) := fun E x x1 x2 => HB.xQ (hsE E) (i := 2) (n := 8) rfl (by omega) x1 x2
  have q4 : ∀ E {ρ : Type} {p : Option ρ}, gO Θ (HG Θ g E h) 1 b p = p := fun E => HB.xO (hsE E) (i := 0) rfl
  induction r with
  | zero =>
    intro j n E hj hn hw
    obtain ⟨n, rfl⟩ : ∃ n', n = n' + 1 := ⟨n - 1, by omega⟩
    rw [E_G_survey_7, B_G_survey_7, q0, bo_some, q1, bo_some, if_pos (by rw [J_le] <;> omega), show mny V = j by unfold mny; omega]
    exact ⟨E, rfl, hw⟩
  | succ r ih =>
    intro j n E hj hn hw
    obtain ⟨n, rfl⟩ : ∃ n', n = n' + 1 := ⟨n - 1, by omega⟩
    have ew : P_D_isWaiting Θ N (HG Θ g E h) b (b + 3 + ro D j) = some (J (if fd V j 4 = -1 ∧ fd V j 2 + 2 ≤ V 1 then 1 else 0), HG Θ g E h) := by
      have := c_isWaiting (Θ := Θ) (N := N) (hsE E).1 hd I (k := (j : Int)) (by omega) (by omega)
      rwa [(hsE E).hd] at this
    rw [E_G_survey_7, B_G_survey_7, q0, bo_some, q1, bo_some, if_neg (by rw [J_le] <;> omega), bo_some, q2, bo_some, q3 E j (by omega) (by omega), bo_some, q4, ew, bc_some, jn_eq]
    by_cases c : fd V j 4 = -1 ∧ fd V j 2 + 2 ≤ V 1
    · have hl := wlist_len (V := V) j
      have hw1 := hw.1
      have e1 : rI Θ (HG Θ g E h) 3 (b + 3 + ro D j) 1 = some (J (fd V j 1)) := by
        have := v_I1 (hsE E).1 hd (k := (j : Int)) (by omega) (by omega) (by omega)
        rwa [(hsE E).hd] at this
      rw [if_pos c, if_neg (by rw [J_0, J_eq] <;> omega)]
      simp (disch := omega) only [gf_A2 hb, gf_I3 hb, bo_some, q0, q2, q3, e1, gf_w2 hb, gf_W3 hb, J_add, up2_ne]
      refine ih (j + 1) n _ (by omega) (by omega) ⟨?_, ?_⟩
      · rw [wlist, if_pos c, up2_eq, List.length_append]
        simp
        omega
      · rw [wlist, if_pos c, List.length_append, List.length_singleton, wl_snoc, up2_row (by omega)]
        have e1 : (up2 E 2 (E 0 3) (fd V j 1)) 2 (0 + ((wlist V j).length : Int)) = fd V j 1 := by rw [show (0 : Int) + (wlist V j).length = E 0 3 by omega, up2_eq]
        rw [e1, wl_ext (g := E 2) (wlist V j).length 0 (fun i a b => by rw [up2_nj (by omega)]), hw.2]
    · rw [if_neg c, if_pos (by rfl), J_add]
      exact ih (j + 1) n E (by omega) (by omega) (by rw [wlist, if_neg c]; exact hw)
theorem c_survG_L (hN : 2000 ≤ N) (hb : bOK Θ 5 g h) (hs : HB Θ shD b D h) (hx : g + 5 ≤ b ∨ b + 13 ≤ g) (hd : DV D V) (I : Inv G H M V) {W : List Int} {K : mH → Int32 → Option (Unit × mH)} : ∀ (r j n : Nat) (E : Nat → Int → Int), j + r = 60 → r < n → WLs E W → GLs E (gsc V j).2 → ∃ E', P_G_survey_80 Θ N K g b n (HG Θ g E h) (J (gsc V j).1) (J j) = K (HG Θ g E' h) (J (gsc V 60).1) ∧ WLs E' W ∧ GLs E' (gsc V 60).2 := by
  intro r
  have hsE := g_dock hb hs hx
  have q0 : ∀ E, rA Θ (HG Θ g E h) 1 b 0 = some (b + 1) := fun E => HB.xA (hsE E) (i := 0) rfl rfl
  have q4 : ∀ E {ρ : Type} {p : Option ρ}, gO Θ (HG Θ g E h) 2 (b + 1) p = p := fun E => HB.xO (hsE E) (i := 1) rfl
  induction r with
  | zero =>
    intro j n E hj hn hw hg
    obtain ⟨n, rfl⟩ : ∃ n', n = n' + 1 := ⟨n - 1, by omega⟩
    obtain rfl : j = 60 := by omega
    rw [E_G_survey_80, B_G_survey_80, if_pos (by rw [J_le] <;> omega)]
    exact ⟨E, rfl, hw, hg⟩
  | succ r ih =>
    intro j n E hj hn hw hg
    obtain ⟨n, rfl⟩ : ∃ n', n = n' + 1 := ⟨n - 1, by omega⟩
    have eo : P_L_overlapping Θ N (HG Θ g E h) (b + 1) (J j) (J 1) = if at' V j = -1 then some (none, HG Θ g E h) else some (some (b + 3 + ro D (at' V j)), HG Θ g E h) := by
      have := c_overlapping (Θ := Θ) (N := N) hN (hsE E).1 hd I (a := (j : Int)) (l := 1) (by omega) (by omega) (by omega) (by omega)
      rw [(hsE E).hd, ovf_at I] at this
      exact this
    obtain ⟨a, -, -⟩ := gsc_rng (V := V) j
    rw [E_G_survey_80, B_G_survey_80, if_neg (by rw [J_le] <;> omega), q0, bo_some, q4, eo]
    have e1 : ((j + 1 : Nat) : Int) = (j : Int) + 1 := by omega
    by_cases c : at' V j = -1
    · rw [if_pos c, bn_none, jn_eq, J_add, J_add]
      have := ih (j + 1) n E (by omega) (by omega) hw (by rw [gsc, if_pos c]; exact hg)
      rw [gsc, if_pos c, e1] at this
      exact this
    · obtain ⟨E', p1, p2, p3, p4⟩ := c_addGap (N := N) hb hg (gsc_8 I j) (x := (gsc V j).1) (by omega) (by omega)
      rw [if_neg c, bn_some, jn_eq, gf_O hb, p1, bc_some, J_add]
      have := ih (j + 1) n E' (by omega) (by omega) ⟨by rw [p3]; exact hw.1, by rw [p4]; exact hw.2⟩ (by rw [gsc, if_neg c]; exact p2)
      rw [gsc, if_neg c, e1] at this
      exact this
theorem c_survey (hN : 2000 ≤ N) (hb : bOK Θ 5 g h) (hs : HB Θ shD b D h) (hx : g + 5 ≤ b ∨ b + 13 ≤ g) (hd : DV D V) (I : Inv G H M V) : ∃ E', P_G_survey Θ N (HG Θ g E h) g b = some ((), HG Θ g E' h) ∧ WLs E' (wlist V (mny V)) ∧ GLs E' (gps V) := by
  have h4 := I.h4
  unfold P_G_survey
  rw [gf_W3 hb, bo_some]
  obtain ⟨E1, p1, p2⟩ := c_survW_L (Θ := Θ) (N := N) (K := (fun h20 => (bo (wF Θ h20 6 g 1 (.int (J 0))) (fun h21 => (P_G_survey_80 Θ N (fun h34 u35 => (gO Θ h34 6 g (bc (P_G_addGap Θ N h34 g u35) (fun v37 h36 => (some ((), h36)))))) g b N h21 (J 0) (J 0)))))) hN hb hs hx hd I (V 4).toNat 0 N (up2 E 0 3 0) (by omega) (by omega) ⟨by rw [up2_eq]; rfl, rfl⟩
  obtain ⟨E2, q1, q2, q3⟩ := c_survG_L (Θ := Θ) (N := N) (K := (fun h34 u35 => (gO Θ h34 6 g (bc (P_G_addGap Θ N h34 g u35) (fun v37 h36 => (some ((), h36))))))) hN hb hs hx hd I (W := wlist V (mny V)) 60 0 N (up2 E1 0 1 0) (by omega) (by omega) ⟨by rw [up2_nj (by omega)]; exact p2.1, by rw [up2_row (by omega)]; exact p2.2⟩ ⟨by rw [up2_eq]; rfl, rfl⟩
  obtain ⟨a, -, -⟩ := gsc_rng (V := V) 60
  obtain ⟨E3, r1, r2, r3, r4⟩ := c_addGap (N := N) hb q3 (gsc_8 I 60) (x := (gsc V 60).1) (by omega) (by omega)
  refine ⟨E3, ?_, ⟨by rw [r3]; exact q2.1, by rw [r4]; exact q2.2⟩, r2⟩
  refine (show _ = _ from p1).trans ?_
  rw [gf_W1 hb, bo_some]
  refine (show _ = _ from q1).trans ?_
  rw [gf_O hb, r1, bc_some]
end G2
