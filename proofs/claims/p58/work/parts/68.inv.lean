/-! what holds of the array now at every time -/
def shOK (V : Int → Int) (k : Int) : Prop := (0 ≤ fd V k 0 ∧ fd V k 0 < V 5) ∧ (5 ≤ fd V k 1 ∧ fd V k 1 ≤ 30) ∧ (5 ≤ fd V k 2 ∧ fd V k 2 ≤ 80) ∧ (0 ≤ fd V k 3 ∧ fd V k 3 ≤ 99) ∧ (fd V k 4 = -1 ∨ (0 ≤ fd V k 4 ∧ fd V k 4 + fd V k 1 ≤ 60)) ∧ (fd V k 5 = 0 ∨ fd V k 5 = 1) ∧ (0 ≤ fd V k 6 ∧ fd V k 6 ≤ V 6) ∧ (0 ≤ fd V k 7 ∧ fd V k 7 ≤ V 6) ∧ 0 ≤ fd V k 8
def pr2 (V : Int → Int) (k l : Int) : Prop := fd V k 0 < fd V l 0 ∧ (fd V k 4 ≠ -1 → fd V l 4 ≠ -1 → fd V k 4 + fd V k 1 ≤ fd V l 4 ∨ fd V l 4 + fd V l 1 ≤ fd V k 4)
def Inv (G H M : Int) (V : Int → Int) : Prop := OKV V ∧ (0 ≤ V 0 ∧ V 0 ≤ H) ∧ (0 ≤ V 1 ∧ V 1 ≤ 200) ∧ (V 2 = 0 ∨ V 2 = 1) ∧ (-30 ≤ V 3 ∧ V 3 ≤ 30) ∧ (0 ≤ V 5 ∧ V 5 ≤ M) ∧ (0 ≤ V 7 ∧ V 6 ≤ G ∧ V 6 - V 7 = smm V 8 (mny V)) ∧ (∀ k : Int, 0 ≤ k → k < V 4 → shOK V k) ∧ (∀ k l : Int, 0 ≤ k → k < l → l < V 4 → pr2 V k l) ∧ (∀ p : Int, 0 ≤ p → p < 60 → V (80 + p) = 0 ∨ V (80 + p) = 1) ∧ blk V 60 ≤ 20
section IV
variable {G H M : Int} {V : Int → Int}
theorem Inv.ok (I : Inv G H M V) : OKV V := I.1
theorem Inv.h0 (I : Inv G H M V) : 0 ≤ V 0 ∧ V 0 ≤ H := I.2.1
theorem Inv.h1 (I : Inv G H M V) : 0 ≤ V 1 ∧ V 1 ≤ 200 := I.2.2.1
theorem Inv.h2 (I : Inv G H M V) : V 2 = 0 ∨ V 2 = 1 := I.2.2.2.1
theorem Inv.h3 (I : Inv G H M V) : -30 ≤ V 3 ∧ V 3 ≤ 30 := I.2.2.2.2.1
theorem Inv.h4 (I : Inv G H M V) : 0 ≤ V 4 ∧ V 4 ≤ 8 := I.1.2
theorem Inv.h5 (I : Inv G H M V) : 0 ≤ V 5 ∧ V 5 ≤ M := I.2.2.2.2.2.1
theorem Inv.h7 (I : Inv G H M V) : 0 ≤ V 7 ∧ V 6 ≤ G ∧ V 6 - V 7 = smm V 8 (mny V) := I.2.2.2.2.2.2.1
theorem Inv.sh (I : Inv G H M V) : ∀ k : Int, 0 ≤ k → k < V 4 → shOK V k := I.2.2.2.2.2.2.2.1
theorem Inv.pr (I : Inv G H M V) : ∀ k l : Int, 0 ≤ k → k < l → l < V 4 → pr2 V k l := I.2.2.2.2.2.2.2.2.1
theorem Inv.bl (I : Inv G H M V) : ∀ p : Int, 0 ≤ p → p < 60 → V (80 + p) = 0 ∨ V (80 + p) = 1 := I.2.2.2.2.2.2.2.2.2.1
theorem Inv.b20 (I : Inv G H M V) : blk V 60 ≤ 20 := I.2.2.2.2.2.2.2.2.2.2
theorem Inv.mono {G' H' M' : Int} (I : Inv G H M V) (h1 : G ≤ G') (h2 : H ≤ H') (h3 : M ≤ M') : Inv G' H' M' V :=
  ⟨I.ok, ⟨I.h0.1, by have := I.h0; omega⟩, I.h1, I.h2, I.h3, ⟨I.h5.1, by have := I.h5; omega⟩, ⟨I.h7.1, by have := I.h7; omega, I.h7.2.2⟩, I.sh, I.pr, I.bl, I.b20⟩
/-! sums -/
theorem smm_ext {W : Int → Int} {i : Int} : ∀ n : Nat, (∀ k : Nat, k < n → fd W k i = fd V k i) → smm W i n = smm V i n
  | 0, _ => rfl
  | n + 1, h => by rw [smm, smm, smm_ext n (fun k hk => h k (by omega)), h n (by omega)]
theorem smm_up {i w v : Int} : ∀ n : Nat, 0 ≤ w → w < n → smm (up1 V (8 + 9 * w + i) v) i n = smm V i n + (v - fd V w i)
  | 0, h1, h2 => by omega
  | n + 1, h1, h2 => by
    rw [smm, smm]
    by_cases c : w = n
    · subst c
      rw [smm_ext (V := V) n (fun k hk => by unfold fd; rw [up1_nj (by omega)])]
      unfold fd
      rw [up1_eq]
      omega
    · rw [smm_up n h1 (by omega)]
      have : fd (up1 V (8 + 9 * w + i) v) n i = fd V n i := by unfold fd; rw [up1_nj (by omega)]
      omega
theorem smm_0 {i : Int} : ∀ n : Nat, (∀ k : Nat, k < n → 0 ≤ fd V k i) → 0 ≤ smm V i n ∧ ∀ k : Nat, k < n → fd V k i ≤ smm V i n
  | 0, _ => ⟨by simp [smm], fun k hk => by omega⟩
  | n + 1, h => by
    obtain ⟨a, b⟩ := smm_0 n (fun k hk => h k (by omega))
    have := h n (by omega)
    rw [smm]
    refine ⟨by omega, fun k hk => ?_⟩
    by_cases c : k = n
    · subst c; omega
    · have := b k (by omega); omega
theorem blk_ext {W : Int → Int} : ∀ n : Nat, (∀ p : Nat, p < n → W (80 + p) = V (80 + p)) → blk W n = blk V n
  | 0, _ => rfl
  | n + 1, h => by rw [blk, blk, blk_ext n (fun k hk => h k (by omega)), h n (by omega)]
theorem blk_up {p v : Int} : ∀ n : Nat, 0 ≤ p → p < n → blk (up1 V (80 + p) v) n = blk V n + (v - V (80 + p))
  | 0, h1, h2 => by omega
  | n + 1, h1, h2 => by
    rw [blk, blk]
    by_cases c : p = n
    · subst c
      rw [blk_ext (V := V) n (fun k hk => by rw [up1_nj (by omega)]), up1_eq]
      omega
    · rw [blk_up n h1 (by omega), up1_nj (by omega)]
      omega
theorem blk_0 : ∀ n : Nat, (∀ p : Nat, p < n → V (80 + p) = 0 ∨ V (80 + p) = 1) → 0 ≤ blk V n ∧ blk V n ≤ n
  | 0, _ => by simp [blk]
  | n + 1, h => by
    have := blk_0 n (fun k hk => h k (by omega))
    have := h n (by omega)
    rw [blk]
    omega
theorem bnt_le {k : Int} : ∀ n : Nat, (∀ p : Nat, p < n → V (80 + p) = 0 ∨ V (80 + p) = 1) → 0 ≤ bnt V k n ∧ bnt V k n ≤ blk V n
  | 0, _ => by simp [bnt, blk]
  | n + 1, h => by
    have := bnt_le (k := k) n (fun k hk => h k (by omega))
    have := h n (by omega)
    rw [bnt, blk]
    split <;> omega
theorem Inv.blk0 (I : Inv G H M V) : 0 ≤ blk V 60 ∧ blk V 60 ≤ 60 := by
  have := blk_0 (V := V) 60 (fun p hp => I.bl p (by omega) (by omega))
  omega
theorem Inv.bnt0 (I : Inv G H M V) (k : Int) : 0 ≤ bnt V k 60 ∧ bnt V k 60 ≤ 20 := by
  have := bnt_le (V := V) (k := k) 60 (fun p hp => I.bl p (by omega) (by omega))
  have := I.b20
  omega
theorem Inv.bill (I : Inv G H M V) {k : Int} (h1 : 0 ≤ k) (h2 : k < V 4) : 0 ≤ fd V k 8 ∧ fd V k 8 ≤ V 6 := by
  have a := smm_0 (V := V) (i := 8) (mny V) (fun k hk => (I.sh k (by omega) (by unfold mny at hk; omega)).2.2.2.2.2.2.2.2)
  have b := a.2 k.toNat (by unfold mny; omega)
  rw [Int.toNat_of_nonneg h1] at b
  have c := I.h7
  have d := (I.sh k h1 h2).2.2.2.2.2.2.2.2
  omega
theorem Inv.v6 (I : Inv G H M V) : 0 ≤ V 6 := by
  have a := smm_0 (V := V) (i := 8) (mny V) (fun k hk => (I.sh k (by omega) (by unfold mny at hk; omega)).2.2.2.2.2.2.2.2)
  have c := I.h7
  omega
/-! who lies at a metre -/
theorem atm_none {p : Int} : ∀ n : Nat, atm V p n = -1 ↔ ∀ k : Nat, k < n → ¬ cov V p k
  | 0 => by simp [atm]
  | n + 1 => by
    rw [atm]
    constructor
    · intro h k hk
      split at h
      · omega
      · rename_i hc
        by_cases c : k = n
        · subst c; exact hc
        · exact (atm_none n).mp h k (by omega)
    · intro h
      have hc := h n (by omega)
      unfold cov at hc
      rw [if_neg hc]
      exact (atm_none n).mpr (fun k hk => h k (by omega))
theorem atm_cov {p : Int} : ∀ n : Nat, atm V p n ≠ -1 → cov V p (atm V p n)
  | 0, h => by simp [atm] at h
  | n + 1, h => by
    rw [atm] at h ⊢
    by_cases c : fd V n 4 ≠ -1 ∧ fd V n 4 ≤ p ∧ p ≤ fd V n 4 + fd V n 1 - 1
    · rw [if_pos c]; exact c
    · rw [if_neg c] at h ⊢; exact atm_cov n h
theorem at_none {p : Int} : at' V p = -1 ↔ ∀ k : Int, 0 ≤ k → k < V 4 → ¬ cov V p k := by
  unfold at'
  rw [atm_none]
  constructor
  · intro h k h1 h2
    have := h k.toNat (by unfold mny; omega)
    rwa [Int.toNat_of_nonneg h1] at this
  · intro h k hk
    exact h k (by omega) (by unfold mny at hk; omega)
theorem cov_uniq (I : Inv G H M V) {p k l : Int} (h1 : 0 ≤ k) (h2 : k < V 4) (h3 : 0 ≤ l) (h4 : l < V 4) (hk : cov V p k) (hl : cov V p l) : k = l := by
  unfold cov at hk hl
  by_cases c : k < l
  · have := (I.pr k l h1 c h4).2 hk.1 hl.1
    omega
  · by_cases d : l < k
    · have := (I.pr l k h3 d h2).2 hl.1 hk.1
      omega
    · omega
theorem at_of (I : Inv G H M V) {p k : Int} (h1 : 0 ≤ k) (h2 : k < V 4) (hk : cov V p k) : at' V p = k := by
  have hn : at' V p ≠ -1 := fun e => at_none.mp e k h1 h2 hk
  have hc := atm_cov (V := V) (p := p) (mny V) hn
  have hr := atm_le (V := V) (p := p) (mny V)
  have h9 : at' V p = atm V p (mny V) := rfl
  rw [← h9] at hc hr
  have := I.h4
  unfold mny at hr
  exact cov_uniq I (by omega) (by omega) h1 h2 hc hk
theorem fre_iff {a : Int} : ∀ n : Nat, fre V a n = 1 ↔ ∀ j : Nat, j < n → at' V (a + j) = -1
  | 0 => by simp [fre]
  | n + 1 => by
    rw [fre]
    constructor
    · intro h j hj
      split at h
      · rename_i c
        by_cases d : j = n
        · subst d; exact c.2
        · exact (fre_iff n).mp c.1 j (by omega)
      · omega
    · intro h
      rw [if_pos ⟨(fre_iff n).mpr (fun j hj => h j (by omega)), h n (by omega)⟩]
/-- free: no docked ship reaches in -/
theorem fre_iff2 (I : Inv G H M V) {a l : Int} (hl : 0 ≤ l) : fre V a l.toNat = 1 ↔ ∀ k : Int, 0 ≤ k → k < V 4 → fd V k 4 ≠ -1 → fd V k 4 + fd V k 1 ≤ a ∨ a + l ≤ fd V k 4 ∨ l = 0 := by
  rw [fre_iff]
  constructor
  · intro h k h1 h2 h3
    have s := I.sh k h1 h2
    unfold shOK at s
    by_cases c : fd V k 4 + fd V k 1 ≤ a ∨ a + l ≤ fd V k 4 ∨ l = 0
    · exact c
    · exfalso
      by_cases d : a ≤ fd V k 4
      · have := at_none.mp (h (fd V k 4 - a).toNat (by omega)) k h1 h2
        apply this
        unfold cov
        omega
      · have := at_none.mp (h 0 (by omega)) k h1 h2
        apply this
        unfold cov
        omega
  · intro h j hj
    refine at_none.mpr (fun k h1 h2 hc => ?_)
    unfold cov at hc
    have := h k h1 h2 hc.1
    omega
/-! one ship's numbers change -/
theorem fd_up {w i v k j : Int} (hi : 0 ≤ i ∧ i ≤ 8) (hj : 0 ≤ j ∧ j ≤ 8) : fd (up1 V (8 + 9 * w + i) v) k j = if k = w ∧ j = i then v else fd V k j := by
  unfold fd
  rw [up1_at]
  by_cases c : k = w ∧ j = i
  · rw [if_pos c, if_pos (by omega)]
  · rw [if_neg c, if_neg (by omega)]
theorem fd_up6 {v k j c : Int} (hk : 0 ≤ k) (hj : 0 ≤ j) (hc : c < 8) : fd (up1 V c v) k j = fd V k j := by
  unfold fd
  rw [up1_nj (by omega)]
theorem mny_up {c v : Int} (hc : c ≠ 4) : mny (up1 V c v) = mny V := by
  unfold mny
  rw [up1_nj (by omega)]
theorem blk_row {w i v : Int} (hw : w ≤ 7) (hi : i ≤ 8) : blk (up1 V (8 + 9 * w + i) v) 60 = blk V 60 := blk_ext 60 (fun p hp => by rw [up1_nj (by omega)])
theorem blk_low {c v : Int} (hc : c < 80) : blk (up1 V c v) 60 = blk V 60 := blk_ext 60 (fun p hp => by rw [up1_nj (by omega)])
/-- fields that don't take part in sums, orders and places: dirt, cleaned, damage, hours -/
theorem Inv.put (I : Inv G H M V) {w i v : Int} (h1 : 0 ≤ w) (h2 : w < V 4) (h3 : (i = 3 ∧ 0 ≤ v ∧ v ≤ 99) ∨ (i = 5 ∧ (v = 0 ∨ v = 1)) ∨ ((i = 6 ∨ i = 7) ∧ 0 ≤ v ∧ v ≤ V 6)) (hG : G ≤ 90000000) : Inv G H M (up1 V (8 + 9 * w + i) v) := by
  have h4 := I.h4
  have h7 := I.h7
  have hi : 0 ≤ i ∧ i ≤ 8 := by omega
  have e : ∀ j : Int, j < 8 → up1 V (8 + 9 * w + i) v j = V j := fun j hj => up1_nj (by omega)
  refine ⟨I.ok.up (by omega) (by omega) (by omega), by rw [e 0 (by omega)]; exact I.h0, by rw [e 1 (by omega)]; exact I.h1, by rw [e 2 (by omega)]; exact I.h2, by rw [e 3 (by omega)]; exact I.h3, by rw [e 5 (by omega)]; exact I.h5, ?_, ?_, ?_, ?_, ?_⟩
  · rw [e 7 (by omega), e 6 (by omega), mny_up (by omega), smm_ext (V := V) _ (fun k hk => by rw [fd_up hi (by omega), if_neg (by omega)])]
    exact h7
  · intro k a b
    rw [e 4 (by omega)] at b
    have s := I.sh k a b
    unfold shOK at s ⊢
    rw [e 5 (by omega), e 6 (by omega)]
    simp only [fd_up hi (show (0 : Int) ≤ 0 ∧ (0 : Int) ≤ 8 by omega), fd_up hi (show (0 : Int) ≤ 1 ∧ (1 : Int) ≤ 8 by omega), fd_up hi (show (0 : Int) ≤ 2 ∧ (2 : Int) ≤ 8 by omega), fd_up hi (show (0 : Int) ≤ 3 ∧ (3 : Int) ≤ 8 by omega), fd_up hi (show (0 : Int) ≤ 4 ∧ (4 : Int) ≤ 8 by omega), fd_up hi (show (0 : Int) ≤ 5 ∧ (5 : Int) ≤ 8 by omega), fd_up hi (show (0 : Int) ≤ 6 ∧ (6 : Int) ≤ 8 by omega), fd_up hi (show (0 : Int) ≤ 7 ∧ (7 : Int) ≤ 8 by omega), fd_up hi (show (0 : Int) ≤ 8 ∧ (8 : Int) ≤ 8 by omega)]
    by_cases c : k = w
    · subst c
      rcases h3 with ⟨rfl, h3⟩ | ⟨rfl, h3⟩ | ⟨rfl | rfl, h3⟩ <;> simp <;> omega
    · simp only [c, false_and, if_false]
      exact s
  · intro k l a b c
    rw [e 4 (by omega)] at c
    have s := I.pr k l a b c
    unfold pr2 at s ⊢
    rw [fd_up hi (by omega), fd_up hi (by omega), fd_up hi (by omega), fd_up hi (by omega), fd_up hi (by omega), fd_up hi (by omega), if_neg (by omega), if_neg (by omega), if_neg (by omega), if_neg (by omega), if_neg (by omega), if_neg (by omega)]
    exact s
  · intro p a b
    rw [up1_nj (by omega)]
    exact I.bl p a b
  · rw [blk_row (by omega) (by omega)]
    exact I.b20
/-- a ship is charged -/
def chg (V : Int → Int) (w c : Int) : Int → Int := up1 (up1 V (8 + 9 * w + 8) (fd V w 8 + c)) 6 (V 6 + c)
theorem Inv.charge (I : Inv G H M V) {w c : Int} (h1 : 0 ≤ w) (h2 : w < V 4) (h3 : 0 ≤ c) (hG : G + c ≤ 90000000) : Inv (G + c) H M (chg V w c) := by
  have h4 := I.h4
  have h7 := I.h7
  have h8 := I.bill h1 h2
  have e : ∀ j : Int, j < 8 → j ≠ 6 → chg V w c j = V j := fun j hj h6 => by unfold chg; rw [up1_nj h6, up1_nj (by omega)]
  have e6 : chg V w c 6 = V 6 + c := up1_eq
  have ef : ∀ k j : Int, 0 ≤ k → 0 ≤ j → j ≤ 8 → fd (chg V w c) k j = if k = w ∧ j = 8 then fd V w 8 + c else fd V k j := fun k j a b d => by
    unfold chg
    rw [fd_up6 a b (by omega), fd_up (by omega) ⟨b, d⟩]
  refine ⟨(I.ok.up (by omega) (by omega) (by omega)).up (by omega) (by omega) (by omega), by rw [e 0 (by omega) (by omega)]; exact I.h0, by rw [e 1 (by omega) (by omega)]; exact I.h1, by rw [e 2 (by omega) (by omega)]; exact I.h2, by rw [e 3 (by omega) (by omega)]; exact I.h3, by rw [e 5 (by omega) (by omega)]; exact I.h5, ?_, ?_, ?_, ?_, ?_⟩
  · have hm : mny (chg V w c) = mny V := by unfold chg; rw [mny_up (by omega), mny_up (by omega)]
    have hs : smm (chg V w c) 8 (mny V) = smm V 8 (mny V) + c := by
      rw [smm_ext (V := up1 V (8 + 9 * w + 8) (fd V w 8 + c)) _ (fun k hk => by unfold chg; rw [fd_up6 (by omega) (by omega) (by omega)]), smm_up _ h1 (by unfold mny; omega)]
      omega
    rw [e 7 (by omega) (by omega), e6, hm, hs]
    omega
  · intro k a b
    rw [e 4 (by omega) (by omega)] at b
    have s := I.sh k a b
    unfold shOK at s ⊢
    rw [e 5 (by omega) (by omega), e6, ef k 0 a (by omega) (by omega), ef k 1 a (by omega) (by omega), ef k 2 a (by omega) (by omega), ef k 3 a (by omega) (by omega), ef k 4 a (by omega) (by omega), ef k 5 a (by omega) (by omega), ef k 6 a (by omega) (by omega), ef k 7 a (by omega) (by omega), ef k 8 a (by omega) (by omega)]
    by_cases d : k = w
    · subst d
      simp
      omega
    · simp [d]
      omega
  · intro k l a b d
    rw [e 4 (by omega) (by omega)] at d
    have s := I.pr k l a b d
    unfold pr2 at s ⊢
    rw [ef k 0 a (by omega) (by omega), ef k 1 a (by omega) (by omega), ef k 4 a (by omega) (by omega), ef l 0 (by omega) (by omega) (by omega), ef l 1 (by omega) (by omega) (by omega), ef l 4 (by omega) (by omega) (by omega)]
    simpa using s
  · intro p a b
    unfold chg
    rw [up1_nj (by omega), up1_nj (by omega)]
    exact I.bl p a b
  · unfold chg
    rw [blk_low (by omega), blk_row (by omega) (by omega)]
    exact I.b20
/-- the first numbers change -/
theorem Inv.low (I : Inv G H M V) {c v H' : Int} (hc : (c = 0 ∧ 0 ≤ v ∧ v ≤ H' ∧ H ≤ H') ∨ (c = 1 ∧ 0 ≤ v ∧ v ≤ 200 ∧ H' = H) ∨ (c = 2 ∧ (v = 0 ∨ v = 1) ∧ H' = H) ∨ (c = 3 ∧ -30 ≤ v ∧ v ≤ 30 ∧ H' = H)) (hH : H' ≤ 1000000) : Inv G H' M (up1 V c v) := by
  have h4 := I.h4
  have h0 := I.h0
  have e : ∀ j : Int, 4 ≤ j → up1 V c v j = V j := fun j hj => up1_nj (by omega)
  have ef : ∀ k j : Int, 0 ≤ k → 0 ≤ j → fd (up1 V c v) k j = fd V k j := fun k j a b => fd_up6 a b (by omega)
  refine ⟨I.ok.up (by omega) (by omega) (by omega), ?_, ?_, ?_, ?_, by rw [e 5 (by omega)]; exact I.h5, ?_, ?_, ?_, ?_, ?_⟩
  · rw [up1_at]; have := I.h0; split <;> omega
  · rw [up1_at]; have := I.h1; split <;> omega
  · rw [up1_at]; have := I.h2; split <;> omega
  · rw [up1_at]; have := I.h3; split <;> omega
  · rw [e 7 (by omega), e 6 (by omega), mny_up (by omega), smm_ext (V := V) _ (fun k hk => ef k 8 (by omega) (by omega))]
    exact I.h7
  · intro k a b
    rw [e 4 (by omega)] at b
    have s := I.sh k a b
    unfold shOK at s ⊢
    rw [e 5 (by omega), e 6 (by omega), ef k 0 a (by omega), ef k 1 a (by omega), ef k 2 a (by omega), ef k 3 a (by omega), ef k 4 a (by omega), ef k 5 a (by omega), ef k 6 a (by omega), ef k 7 a (by omega), ef k 8 a (by omega)]
    exact s
  · intro k l a b d
    rw [e 4 (by omega)] at d
    have s := I.pr k l a b d
    unfold pr2 at s ⊢
    rw [ef k 0 a (by omega), ef k 1 a (by omega), ef k 4 a (by omega), ef l 0 (by omega) (by omega), ef l 1 (by omega) (by omega), ef l 4 (by omega) (by omega)]
    exact s
  · intro p a b
    rw [e _ (by omega)]
    exact I.bl p a b
  · rw [blk_low (by omega)]
    exact I.b20
end IV
