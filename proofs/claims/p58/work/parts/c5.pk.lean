/-! packing, no machine: ships that fit alone, gaps as the law finds them -/
section PB
variable {V W : Int → Int} {c : Int}
theorem ach_B {B : Int} : ∀ (ws gs : List Int) (c m : Int), (∀ w, w ∈ ws → 0 ≤ w) → (∀ g, g ∈ gs → 0 ≤ g ∧ g ≤ B) → (ach ws gs c m ↔ ach (ws.filter (fun w => decide (w ≤ B))) gs c m)
  | [], _, _, _, _, _ => Iff.rfl
  | w :: ws, gs, c, m, hw, hg => by
    have hw' : ∀ x, x ∈ ws → 0 ≤ x := fun x hx => hw x (List.mem_cons_of_mem _ hx)
    have h0 := hw w List.mem_cons_self
    by_cases e : w ≤ B
    · rw [List.filter_cons_of_pos (by simpa using e)]
      constructor
      · rintro (h | ⟨x, hx, h⟩)
        · exact Or.inl ((ach_B ws gs c m hw' hg).mp h)
        · exact Or.inr ⟨x, hx, (ach_B ws x _ _ hw' (tk_le h0 gs x hx hg)).mp h⟩
      · rintro (h | ⟨x, hx, h⟩)
        · exact Or.inl ((ach_B ws gs c m hw' hg).mpr h)
        · exact Or.inr ⟨x, hx, (ach_B ws x _ _ hw' (tk_le h0 gs x hx hg)).mpr h⟩
    · rw [List.filter_cons_of_neg (by simpa using e), ← ach_B ws gs c m hw' hg]
      constructor
      · rintro (h | ⟨x, hx, h⟩)
        · exact h
        · rw [tk_no gs (fun g h9 => by have := hg g h9; omega)] at hx
          cases hx
      · exact Or.inl
theorem isC_B {B : Int} {ws gs : List Int} {v : Int} (hw : ∀ w, w ∈ ws → 0 ≤ w) (hg : ∀ g, g ∈ gs → 0 ≤ g ∧ g ≤ B) (h : isC ws gs v) : isC (ws.filter (fun w => decide (w ≤ B))) gs v := by
  obtain ⟨⟨m, a⟩, b⟩ := h
  exact ⟨⟨m, (ach_B ws gs _ _ hw hg).mp a⟩, fun c m x => b c m ((ach_B ws gs _ _ hw hg).mpr x)⟩
theorem isM_B {B : Int} {ws gs : List Int} {v : Int} (hw : ∀ w, w ∈ ws → 0 ≤ w) (hg : ∀ g, g ∈ gs → 0 ≤ g ∧ g ≤ B) (h : isM ws gs v) : isM (ws.filter (fun w => decide (w ≤ B))) gs v := by
  obtain ⟨⟨m, a⟩, b⟩ := h
  exact ⟨⟨m, (ach_B ws gs _ _ hw hg).mp a⟩, fun c m x => b c m ((ach_B ws gs _ _ hw hg).mpr x)⟩
/-- the widest gap -/
def mxg : List Int → Int
  | [] => 0
  | g :: gs => max g (mxg gs)
theorem mxg_0 : ∀ gs : List Int, 0 ≤ mxg gs
  | [] => by simp [mxg]
  | g :: gs => by have := mxg_0 gs; rw [mxg]; omega
theorem mxg_le : ∀ (gs : List Int) (g : Int), g ∈ gs → g ≤ mxg gs
  | [], g, h => by cases h
  | a :: gs, g, h => by
    rw [mxg]
    rcases List.mem_cons.mp h with e | h
    · omega
    · have := mxg_le gs g h
      omega
theorem mxg_ex {w : Int} (h0 : 0 < w) : ∀ gs : List Int, w ≤ mxg gs → ∃ x, x ∈ tk w gs
  | [], h => by rw [mxg] at h; omega
  | g :: gs, h => by
    rw [mxg] at h
    by_cases c : w ≤ g
    · exact ⟨_, mem_tk.mpr (Or.inl ⟨c, rfl⟩)⟩
    · obtain ⟨x, hx⟩ := mxg_ex h0 gs (by omega)
      exact ⟨g :: x, mem_tk.mpr (Or.inr ⟨x, hx, rfl⟩)⟩
theorem isM_nil {gs : List Int} {v : Int} (h : isM [] gs v) : v = 0 := by
  obtain ⟨⟨c, a⟩, -⟩ := h
  exact a.2
theorem isM_one {gs : List Int} {w v : Int} (h0 : 0 < w) (h : isM [w] gs v) : v = if w ≤ mxg gs then w else 0 := by
  obtain ⟨⟨c, a⟩, b⟩ := h
  by_cases q : w ≤ mxg gs
  · rw [if_pos q]
    obtain ⟨x, hx⟩ := mxg_ex h0 gs q
    have l := b 1 w (Or.inr ⟨x, hx, by show 1 - 1 = (0 : Int) ∧ w - w = 0; omega⟩)
    rcases a with a | ⟨y, hy, a⟩
    · have := a.2
      omega
    · have : c - 1 = 0 ∧ v - w = 0 := a
      omega
  · rw [if_neg q]
    rcases a with a | ⟨y, hy, a⟩
    · exact a.2
    · rw [tk_no gs (fun g hg => by have := mxg_le gs g hg; omega)] at hy
      cases hy
theorem wz_snoc {L : Int → Int} : ∀ (r : Nat) (i : Int), wz L (r + 1) i = wz L r i ++ (if 0 < L (i + r) then [L (i + r)] else [])
  | 0, i => by
    show (if 0 < L i then L i :: [] else []) = [] ++ _
    rw [show i + ((0 : Nat) : Int) = i by omega, List.nil_append]
  | r + 1, i => by
    rw [wz, wz_snoc r, wz, show i + 1 + (r : Int) = i + ((r + 1 : Nat) : Int) by omega]
    split
    · rw [List.cons_append]
    · rfl
/-- what the law takes as a ship's length -/
def lnw (V : Int → Int) (k : Int) : Int := if fd V k 4 = -1 ∧ fd V k 2 + 2 ≤ V 1 ∧ fd V k 1 ≤ mxg (gps V) then fd V k 1 else 0
theorem wz_wlist (I : In c V) {L : Int → Int} : ∀ n : Nat, (n : Int) ≤ V 4 → (∀ k : Int, 0 ≤ k → k < n → L k = lnw V k) → wz L n 0 = (wlist V n).filter (fun w => decide (w ≤ mxg (gps V)))
  | 0, _, _ => rfl
  | n + 1, h, hL => by
    have s := I.sh n (by omega) (by omega)
    unfold shOK at s
    rw [wz_snoc, wlist, wz_wlist I n (by omega) (fun k k0 k1 => hL k k0 (by omega)), show (0 : Int) + (n : Int) = n by omega, hL n (by omega) (by omega)]
    by_cases c1 : fd V n 4 = -1 ∧ fd V n 2 + 2 ≤ V 1
    · rw [if_pos c1, List.filter_append]
      congr 1
      by_cases c2 : fd V n 1 ≤ mxg (gps V)
      · have e : lnw V n = fd V n 1 := if_pos ⟨c1.1, c1.2, c2⟩
        rw [e, if_pos (by omega)]
        simp [c2]
      · have e : lnw V n = 0 := if_neg (fun q => c2 q.2.2)
        rw [e, if_neg (by omega)]
        simp [c2]
    · have e : lnw V n = 0 := if_neg (fun q => c1 ⟨q.1, q.2.1⟩)
      rw [if_neg c1, e, if_neg (by omega), List.append_nil]
theorem gpm_rng : ∀ g, g ∈ gps V → 0 ≤ g ∧ g ≤ mxg (gps V) := fun g hg => ⟨(gps_rng g hg).1, mxg_le _ _ hg⟩
theorem wlist_0 (I : In c V) : ∀ w, w ∈ wlist V (mny V) → 0 ≤ w := by
  have e : (mny V : Int) = V 4 := by have := I.h4; unfold mny; omega
  intro w hw
  have := wlist_mem I (mny V) (by omega) w hw
  omega
/-! gaps as the law finds them -/
theorem wl_up {G : Int → Int} {v : Int} : ∀ (r : Nat) (i : Int), wl (up1 G (i + r) v) (r + 1) i = wl G r i ++ [v] := by
  intro r i
  rw [wl_snoc, up1_eq, wl_ext (f := up1 G (i + r) v) (g := G) r i (fun j a b => up1_nj (by omega))]
/-- the state of the scan: how many gaps, what they hold -/
def SCN (V : Int → Int) (p : Nat) (m : Int) (G : Int → Int) : Prop := 0 ≤ m ∧ m ≤ p ∧ (∀ k : Int, m ≤ k → G k = 0) ∧ wl G m.toNat 0 = (gsc V p).2 ++ (if 0 < (gsc V p).1 then [(gsc V p).1] else [])
theorem scn_0 {G : Int → Int} (h : ∀ k, G k = 0) : SCN V 0 0 G := ⟨by omega, by omega, fun k _ => h k, rfl⟩
theorem gsc_prev {p : Nat} : (0 < (gsc V (p + 1)).1 ↔ at' V p = -1) := by
  rw [gsc]
  have := (gsc_rng (V := V) p).1.1
  split
  · rename_i c
    exact ⟨fun _ => c, fun _ => by dsimp only; omega⟩
  · rename_i c
    exact ⟨fun q => by dsimp only at q; omega, fun q => (c q).elim⟩
theorem scn_no {p : Nat} {m : Int} {G : Int → Int} (s : SCN V p m G) (h : ¬ at' V p = -1) : SCN V (p + 1) m G := by
  obtain ⟨a, b, d, e⟩ := s
  refine ⟨a, by omega, d, ?_⟩
  rw [e, gsc, if_neg h]
  dsimp only
  rw [if_neg (show ¬ (0 : Int) < 0 by omega), List.append_nil]
  split
  · rfl
  · rw [List.append_nil]
theorem scn_new {p : Nat} {m : Int} {G : Int → Int} (s : SCN V p m G) (h : at' V p = -1) (hp : ¬ 0 < (gsc V p).1) : SCN V (p + 1) (m + 1) (up1 G m (G m + 1)) := by
  obtain ⟨a, b, d, e⟩ := s
  have g0 := (gsc_rng (V := V) p).1.1
  refine ⟨by omega, by omega, fun k hk => ?_, ?_⟩
  · rw [up1_nj (by omega)]
    exact d k (by omega)
  · have q := wl_up (G := G) (v := G m + 1) m.toNat 0
    rw [show (0 : Int) + (m.toNat : Int) = m by omega, e, if_neg hp, List.append_nil] at q
    rw [show (m + 1).toNat = m.toNat + 1 by omega, q, gsc, if_pos h, d m (by omega)]
    dsimp only
    rw [if_pos (by omega), show (gsc V p).1 + 1 = 0 + 1 by omega]
theorem scn_on {p : Nat} {m : Int} {G : Int → Int} (s : SCN V p m G) (h : at' V p = -1) (hp : 0 < (gsc V p).1) : 1 ≤ m ∧ SCN V (p + 1) m (up1 G (m - 1) (G (m - 1) + 1)) := by
  obtain ⟨a, b, d, e⟩ := s
  rw [if_pos hp] at e
  have m1 : 1 ≤ m := by
    by_cases z : m = 0
    · rw [z] at e
      have := congrArg List.length e
      simp [wl] at this
    · omega
  obtain ⟨n, hn⟩ : ∃ n : Nat, m.toNat = n + 1 := ⟨m.toNat - 1, by omega⟩
  have en : m - 1 = (n : Int) := by omega
  have e2 := wl_snoc (f := G) n 0
  rw [hn, e2] at e
  have e3 := List.append_inj' e rfl
  have e4 : G (0 + (n : Int)) = (gsc V p).1 := by simpa using e3.2
  rw [show (0 : Int) + (n : Int) = m - 1 by omega] at e4
  refine ⟨m1, a, by omega, fun k hk => ?_, ?_⟩
  · rw [up1_nj (by omega)]
    exact d k hk
  · have q := wl_up (G := G) (v := G (m - 1) + 1) n 0
    rw [show (0 : Int) + (n : Int) = m - 1 by omega] at q
    rw [hn, q, e3.1, gsc, if_pos h]
    dsimp only
    rw [if_pos (by omega), e4]
theorem scn_60 {m : Int} {G : Int → Int} (s : SCN V 60 m G) : wl G m.toNat 0 = gps V := by
  rw [s.2.2.2]
  unfold gps
  split
  · rfl
  · rw [List.append_nil]
end PB
