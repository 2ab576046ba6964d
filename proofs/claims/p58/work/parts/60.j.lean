/-! numbers: an int is J of an integer; blocks of cells by numbers -/
theorem J_add (a b : Int) : J a + J b = J (a + b) := (Int32.ofInt_add a b).symm
theorem J_sub (a b : Int) : J a - J b = J (a - b) := (Int32.ofInt_sub a b).symm
theorem J_mul (a b : Int) : J a * J b = J (a * b) := (Int32.ofInt_mul a b).symm
theorem J_neg (a : Int) : -J a = J (-a) := (Int32.ofInt_neg a).symm
theorem J_0 : (0 : Int32) = J 0 := rfl
theorem J_1 : (1 : Int32) = J 1 := rfl
theorem J_toInt {a : Int} (h1 : -2147483648 ≤ a) (h2 : a < 2147483648) : (J a).toInt = a := Int32.toInt_ofInt_of_le (by omega) (by omega)
theorem J_of (x : Int32) : x = J x.toInt := (Int32.ofInt_toInt x).symm
theorem J_lt {a b : Int} (h1 : -2147483648 ≤ a) (h2 : a < 2147483648) (h3 : -2147483648 ≤ b) (h4 : b < 2147483648) : (J a < J b) = (a < b) := by
  rw [Int32.lt_iff_toInt_lt, J_toInt h1 h2, J_toInt h3 h4]
theorem J_le {a b : Int} (h1 : -2147483648 ≤ a) (h2 : a < 2147483648) (h3 : -2147483648 ≤ b) (h4 : b < 2147483648) : (J a ≤ J b) = (a ≤ b) := by
  rw [Int32.le_iff_toInt_le, J_toInt h1 h2, J_toInt h3 h4]
theorem J_eq {a b : Int} (h1 : -2147483648 ≤ a) (h2 : a < 2147483648) (h3 : -2147483648 ≤ b) (h4 : b < 2147483648) : (J a = J b) = (a = b) := by
  apply propext
  constructor
  · intro h
    rw [← J_toInt h1 h2, ← J_toInt h3 h4, h]
  · intro h; rw [h]
theorem J_eq0 {a : Int} (h1 : -2147483648 ≤ a) (h2 : a < 2147483648) : (J a = 0) = (a = 0) := J_eq (b := 0) h1 h2 (by omega) (by omega)
theorem J_lt0 {a : Int} (h1 : -2147483648 ≤ a) (h2 : a < 2147483648) : (J a < 0) = (a < 0) := J_lt (b := 0) h1 h2 (by omega) (by omega)
theorem J_0lt {a : Int} (h1 : -2147483648 ≤ a) (h2 : a < 2147483648) : (0 < J a) = (0 < a) := J_lt (a := 0) (by omega) (by omega) h1 h2
theorem J_le0 {a : Int} (h1 : -2147483648 ≤ a) (h2 : a < 2147483648) : (J a ≤ 0) = (a ≤ 0) := J_le (b := 0) h1 h2 (by omega) (by omega)
theorem J_0le {a : Int} (h1 : -2147483648 ≤ a) (h2 : a < 2147483648) : (0 ≤ J a) = (0 ≤ a) := J_le (a := 0) (by omega) (by omega) h1 h2
theorem J_nat {a : Int} (h1 : 0 ≤ a) (h2 : a < 2147483648) : (J a).toNatClampNeg = a.toNat := by
  show (J a).toInt.toNat = _
  rw [J_toInt (by omega) h2]
theorem J_ofNat (n : Nat) : Int32.ofNat n = J n := (Int32.ofInt_eq_ofNat (n := n)).symm
theorem J_nI (n : Nat) : nI n = J n := J_ofNat n
theorem J_mx {a b : Int} (h1 : -2147483648 ≤ a) (h2 : a < 2147483648) (h3 : -2147483648 ≤ b) (h4 : b < 2147483648) : mxI (J a) (J b) = J (max a b) := by
  unfold mxI
  by_cases h : a < b
  · rw [if_pos (by rw [J_lt h1 h2 h3 h4]; exact h), Int.max_eq_right (by omega)]
  · rw [if_neg (by rw [J_lt h1 h2 h3 h4]; exact h), Int.max_eq_left (by omega)]
theorem J_mn {a b : Int} (h1 : -2147483648 ≤ a) (h2 : a < 2147483648) (h3 : -2147483648 ≤ b) (h4 : b < 2147483648) : mnI (J a) (J b) = J (min a b) := by
  unfold mnI
  by_cases h : b < a
  · rw [if_pos (by rw [J_lt h3 h4 h1 h2]; exact h), Int.min_eq_right (by omega)]
  · rw [if_neg (by rw [J_lt h3 h4 h1 h2]; exact h), Int.min_eq_left (by omega)]
theorem J_ab {a : Int} (h1 : -2147483648 ≤ a) (h2 : a < 2147483648) : abI (J a) = J (if 0 ≤ a then a else -a) := by
  unfold abI
  by_cases h : 0 ≤ a
  · rw [if_pos (by rw [J_0le h1 h2]; exact h), if_pos h]
  · rw [if_neg (by rw [J_0le h1 h2]; exact h), if_neg h, J_0, J_sub, Int.zero_sub]
theorem J_div {a b : Int} (h1 : 0 ≤ a) (h2 : a < 2147483648) (h3 : 0 < b) (h4 : b < 2147483648) : J a / J b = J (a / b) := by
  apply Int32.toInt_inj.mp
  have hb : J b ≠ -1 := by
    intro h
    have h9 : J b = J (-1) := h
    rw [J_eq (by omega) h4 (by omega) (by omega)] at h9
    omega
  rw [Int32.toInt_div_of_ne_right _ _ hb, J_toInt (by omega) h2, J_toInt (by omega) h4, Int.tdiv_eq_ediv_of_nonneg h1]
  have h5 : 0 ≤ a / b := Int.ediv_nonneg h1 (by omega)
  have h6 : a / b ≤ a := Int.ediv_le_self _ h1
  rw [J_toInt (by omega) (by omega)]
theorem J_ite {c : Prop} [Decidable c] (a b : Int) : (if c then J a else J b) = J (if c then a else b) := by split <;> rfl
theorem J_chr {a : Int} (h1 : 0 ≤ a) (h2 : a < 65536) : ((J a).toUInt32 % 65536).toInt32 = J a := by
  apply Int32.toInt_inj.mp
  have e : (J a).toUInt32.toNat = a.toNat := by
    have h3 := J_toInt (a := a) (by omega) (by omega)
    have c : (J a).toInt = (J a).toBitVec.toInt := rfl
    rw [BitVec.toInt_eq_toNat_cond] at c
    have lt := (J a).toBitVec.isLt
    show (J a).toBitVec.toNat = _
    split at c <;> omega
  have e2 : (J a).toUInt32 % 65536 = (J a).toUInt32 := by
    apply UInt32.toNat_inj.mp
    rw [UInt32.toNat_mod, e]
    show a.toNat % 65536 = a.toNat
    omega
  rw [e2]
  rfl
theorem J_byt {a : Int} (h1 : -128 ≤ a) (h2 : a < 128) : (J a).toInt8.toInt32 = J a := by
  have h : a = -128 ∨ -127 ≤ a := by omega
  apply Int32.toInt_inj.mp
  rw [Int8.toInt_toInt32, Int32.toInt_toInt8, J_toInt (by omega) (by omega)]
  exact Int.bmod_eq_of_le (by omega) (by omega)
theorem nar_bool {v : Int} (h : v = 0 ∨ v = 1) : vp_nar .boolean (J v) = J v := by
  rcases h with rfl | rfl <;> rfl
theorem nar_byte {v : Int} (h1 : -128 ≤ v) (h2 : v < 128) : vp_nar .byte (J v) = J v := J_byt h1 h2
/-! programs' words at known ends -/
theorem jn_eq {α β : Type} (f : α) (g : α → β) : jn f g = g f := rfl
theorem bo_some {α ρ : Type} (a : α) (F : α → Option ρ) : bo (some a) F = F a := rfl
theorem bo_none {α ρ : Type} (F : α → Option ρ) : bo none F = none := rfl
theorem bc_some {α ρ : Type} (a : α) (h : mH) (F : α → mH → Option ρ) : bc (some (a, h)) F = F a h := rfl
theorem bx_inl {α ρ : Type} (a : α) (h : mH) (F : α → mH → Option ρ) (G : Nat → mH → Option ρ) : bx (some (.inl a, h)) F G = F a h := rfl
theorem bx_inr {α ρ : Type} (n : Nat) (h : mH) (F : α → mH → Option ρ) (G : Nat → mH → Option ρ) : bx (some (.inr n, h)) F G = G n h := rfl
theorem bn_some {ρ : Type} (a : Nat) (h : mH) (F : Nat → mH → Option ρ) (G : mH → Option ρ) : bn (some (some a, h)) F G = F a h := rfl
theorem bn_none {ρ : Type} (h : mH) (F : Nat → mH → Option ρ) (G : mH → Option ρ) : bn (some (none, h)) F G = G h := rfl
theorem lp_S {α : Type} (bot : α) (step : α → α) (n : Nat) : lp bot step (n + 1) = step (lp bot step n) := rfl
theorem bc_ite {α ρ : Type} {c : Prop} [Decidable c] (a b : α) (h : mH) (F : α → mH → Option ρ) : bc (if c then some (a, h) else some (b, h)) F = F (if c then a else b) h := by split <;> rfl
theorem jn_it1 {α ρ : Type} {c : Prop} [Decidable c] (F : mH → α → Option ρ) (h : mH) (x y : α) : jn F (fun j => if c then j h x else j h y) = F h (if c then x else y) := by unfold jn; split <;> rfl
theorem jn_it2 {α ρ : Type} {c d : Prop} [Decidable c] [Decidable d] (F : mH → α → Option ρ) (h : mH) (x y z : α) : jn F (fun j => if c then j h x else if d then j h y else j h z) = F h (if c then x else if d then y else z) := by unfold jn; split <;> (try split) <;> rfl
/-! blocks: shapes of cells, contents by integers -/
def up1 (f : Int → Int) (k v : Int) : Int → Int := fun j => if j = k then v else f j
def up2 (D : Nat → Int → Int) (i : Nat) (k v : Int) : Nat → Int → Int := fun a => if a = i then up1 (D i) k v else D a
/-- an object: class, and of each field none: an int; some none: a thing by its number; some r: the block's cell r. Else an array of ints (type, length), or of things (.., none: by numbers; some r: the block's cells from r). -/
abbrev Sh : Type := (Nat × List (Option (Option Nat))) ⊕ (Nat × Nat) ⊕ (Nat × Nat × Option Nat)
def shV (b : Nat) (row : Int → Int) (k : Nat) (q : Option (Option Nat)) : Value := match q with
  | none => .int (J (row k))
  | some none => .ref (row k).toNat
  | some (some r) => .ref (b + r)
def shC (b : Nat) (s : Sh) (row : Int → Int) : mE := match s with
  | .inl (ci, ks) => oB ci (ks.mapIdx (shV b row))
  | .inr (.inl (t, n)) => aI t n (fun k => J (row k))
  | .inr (.inr (t, n, none)) => aQ t n (fun k => if k < n then some (row k).toNat else none)
  | .inr (.inr (t, n, some r)) => aQ t n (fun k => if k < n then some (b + r + (row k).toNat) else none)
def sh0 : Sh := .inr (.inl (0, 0))
def BK (Θ : mW) (L : List Sh) (b : Nat) (D : Nat → Int → Int) (h : mH) : mH := h.mapIdx (fun i e => if b ≤ mwB Θ + i ∧ mwB Θ + i < b + L.length then shC b (L.getD (mwB Θ + i - b) sh0) (D (mwB Θ + i - b)) else e)
def bOK (Θ : mW) (n : Nat) (b : Nat) (h : mH) : Prop := mwB Θ ≤ b ∧ b + n ≤ mwB Θ + h.length
theorem BK_len {Θ : mW} {L : List Sh} {b : Nat} {D : Nat → Int → Int} {h : mH} : (BK Θ L b D h).length = h.length := List.length_mapIdx
theorem BK_gt {Θ : mW} {L : List Sh} {b : Nat} {D : Nat → Int → Int} {h : mH} (hb : bOK Θ L.length b h) (x : Nat) : gt Θ (BK Θ L b D h) x = if b ≤ x ∧ x < b + L.length then some (shC b (L.getD (x - b) sh0) (D (x - b))) else gt Θ h x := by
  obtain ⟨h1, h2⟩ := hb
  unfold gt BK
  by_cases hx : mwB Θ ≤ x
  · rw [if_pos hx, if_pos hx, List.getElem?_mapIdx]
    have e : mwB Θ + (x - mwB Θ) = x := by omega
    rw [e]
    by_cases hr : b ≤ x ∧ x < b + L.length
    · rw [if_pos hr]
      have hl : x - mwB Θ < h.length := by omega
      rw [List.getElem?_eq_getElem hl]
      simp only [Option.map_some, if_pos hr]
    · simp only [if_neg hr, Option.map_id_fun', id_eq]
  · rw [if_neg hx, if_neg hx, if_neg (by omega)]
theorem BK_at {Θ : mW} {L : List Sh} {b : Nat} {D : Nat → Int → Int} {h : mH} (hb : bOK Θ L.length b h) {i : Nat} {s : Sh} (hi : L[i]? = some s) : gt Θ (BK Θ L b D h) (b + i) = some (shC b s (D i)) := by
  have hl := (List.getElem?_eq_some_iff.mp hi).1
  rw [BK_gt hb, if_pos (by omega), show b + i - b = i by omega, List.getD_eq_getElem?_getD, hi]
  rfl
theorem BK_pt {Θ : mW} {L : List Sh} {b : Nat} {D : Nat → Int → Int} {h : mH} (hb : bOK Θ L.length b h) {i : Nat} {s : Sh} {row : Int → Int} (hi : L[i]? = some s) : pt Θ (BK Θ L b D h) (b + i) (shC b s row) = BK Θ L b (fun a => if a = i then row else D a) h := by
  have hl := (List.getElem?_eq_some_iff.mp hi).1
  obtain ⟨h1, h2⟩ := hb
  apply List.ext_getElem?
  intro j
  unfold pt BK
  rw [List.getElem?_set, List.length_mapIdx, List.getElem?_mapIdx, List.getElem?_mapIdx]
  by_cases hj : b + i - mwB Θ = j
  · subst hj
    have hl2 : b + i - mwB Θ < h.length := by omega
    rw [if_pos rfl, if_pos hl2, List.getElem?_eq_getElem hl2, Option.map_some, if_pos (by omega)]
    have e : mwB Θ + (b + i - mwB Θ) - b = i := by omega
    simp only [e, if_true]
    rw [List.getD_eq_getElem?_getD, hi]
    rfl
  · rw [if_neg hj]
    congr 1
    funext e
    by_cases hr : b ≤ mwB Θ + j ∧ mwB Θ + j < b + L.length
    · rw [if_pos hr, if_pos hr]
      show shC b _ (D (mwB Θ + j - b)) = shC b _ (if mwB Θ + j - b = i then row else D (mwB Θ + j - b))
      rw [if_neg (by omega)]
    · rw [if_neg hr, if_neg hr]
section BL
variable {Θ : mW} {L : List Sh} {b : Nat} {D : Nat → Int → Int} {h : mH} {i k ci t n r : Nat} {ks : List (Option (Option Nat))}
theorem g_rV {q : Option (Option Nat)} (hi : L[i]? = some (.inl (ci, ks))) (hk : ks[k]? = some q) (hb : bOK Θ L.length b h) : rV Θ (BK Θ L b D h) ci (b + i) k = some (shV b (D i) k q) := by
  unfold rV
  rw [BK_at hb hi]
  show (if ci = ci then (ks.mapIdx (shV b (D i)))[k]? else none) = _
  rw [if_pos rfl, List.getElem?_mapIdx, hk]
  rfl
theorem g_rI (hi : L[i]? = some (.inl (ci, ks))) (hk : ks[k]? = some none) (hb : bOK Θ L.length b h) : rI Θ (BK Θ L b D h) ci (b + i) k = some (J (D i k)) := by
  unfold rI
  rw [g_rV hi hk hb]
  rfl
theorem g_rA (hi : L[i]? = some (.inl (ci, ks))) (hk : ks[k]? = some (some (some r))) (hb : bOK Θ L.length b h) : rA Θ (BK Θ L b D h) ci (b + i) k = some (b + r) := by
  unfold rA
  rw [g_rV hi hk hb]
  rfl
theorem g_rB (hi : L[i]? = some (.inl (ci, ks))) (hk : ks[k]? = some (some none)) (hb : bOK Θ L.length b h) : rA Θ (BK Θ L b D h) ci (b + i) k = some (D i k).toNat := by
  unfold rA
  rw [g_rV hi hk hb]
  rfl
theorem g_gO {ρ : Type} {p : Option ρ} (hi : L[i]? = some (.inl (ci, ks))) (hb : bOK Θ L.length b h) : gO Θ (BK Θ L b D h) ci (b + i) p = p := by
  unfold gO
  rw [BK_at hb hi]
  show (if ci = ci then p else none) = p
  rw [if_pos rfl]
theorem mapIdx_set {v : Int} {w : Value} {row : Int → Int} {q : Option (Option Nat)} (hk : ks[k]? = some q) (hw : shV b (up1 row k v) k q = w) : (ks.mapIdx (shV b row)).set k w = ks.mapIdx (shV b (up1 row k v)) := by
  have hl := (List.getElem?_eq_some_iff.mp hk).1
  apply List.ext_getElem?
  intro j
  rw [List.getElem?_set, List.length_mapIdx, List.getElem?_mapIdx, List.getElem?_mapIdx]
  by_cases hj : k = j
  · subst hj
    rw [if_pos rfl, if_pos hl, hk, Option.map_some, hw]
  · rw [if_neg hj]
    congr 1
    funext e
    unfold shV up1
    rw [if_neg (by omega)]
theorem g_wI {v : Int} (hi : L[i]? = some (.inl (ci, ks))) (hk : ks[k]? = some none) (hb : bOK Θ L.length b h) : wF Θ (BK Θ L b D h) ci (b + i) k (.int (J v)) = some (BK Θ L b (up2 D i k v) h) := by
  have hl := (List.getElem?_eq_some_iff.mp hk).1
  unfold wF
  rw [BK_at hb hi]
  show (if ci = ci ∧ k < (ks.mapIdx (shV b (D i))).length then some (pt Θ (BK Θ L b D h) (b + i) (oB ci ((ks.mapIdx (shV b (D i))).set k (.int (J v))))) else none) = _
  rw [if_pos ⟨rfl, by rw [List.length_mapIdx]; exact hl⟩, mapIdx_set (v := v) hk (by simp [shV, up1])]
  exact congrArg some (BK_pt hb hi (row := up1 (D i) k v))
theorem g_wB {v : Nat} (hi : L[i]? = some (.inl (ci, ks))) (hk : ks[k]? = some (some none)) (hb : bOK Θ L.length b h) : wF Θ (BK Θ L b D h) ci (b + i) k (.ref v) = some (BK Θ L b (up2 D i k v) h) := by
  have hl := (List.getElem?_eq_some_iff.mp hk).1
  unfold wF
  rw [BK_at hb hi]
  show (if ci = ci ∧ k < (ks.mapIdx (shV b (D i))).length then some (pt Θ (BK Θ L b D h) (b + i) (oB ci ((ks.mapIdx (shV b (D i))).set k (.ref v)))) else none) = _
  rw [if_pos ⟨rfl, by rw [List.length_mapIdx]; exact hl⟩, mapIdx_set (v := v) hk (by simp [shV, up1])]
  exact congrArg some (BK_pt hb hi (row := up1 (D i) k v))
theorem inOK {x : Int} {n : Nat} (h0 : 0 ≤ x) (h1 : x < n) (hn : n ≤ 2147483647) : ¬ (J x < 0 ∨ n ≤ (J x).toNatClampNeg) := by
  rw [J_lt0 (by omega) (by omega), J_nat h0 (by omega)]
  omega
theorem g_aR {x : Int} (hi : L[i]? = some (.inr (.inl (t, n)))) (hn : n ≤ 2147483647) (hb : bOK Θ L.length b h) (h0 : 0 ≤ x) (h1 : x < n) : aR Θ (BK Θ L b D h) t (b + i) (J x) = some (J (D i x)) := by
  unfold aR
  rw [BK_at hb hi]
  show (if t = t ∧ ¬ (J x < 0 ∨ n ≤ (J x).toNatClampNeg) then some (J (D i ((J x).toNatClampNeg : Nat))) else none) = _
  rw [if_pos ⟨rfl, inOK h0 h1 hn⟩, J_nat h0 (by omega), Int.toNat_of_nonneg h0]
theorem g_aW {x v : Int} (hi : L[i]? = some (.inr (.inl (t, n)))) (hn : n ≤ 2147483647) (hb : bOK Θ L.length b h) (h0 : 0 ≤ x) (h1 : x < n) : aW Θ (BK Θ L b D h) t (b + i) (J x) (J v) = some (BK Θ L b (up2 D i x v) h) := by
  unfold aW
  rw [BK_at hb hi]
  show (if t = t ∧ ¬ (J x < 0 ∨ n ≤ (J x).toNatClampNeg) then some (pt Θ (BK Θ L b D h) (b + i) (aI t n (upd (fun k => J (D i (k : Nat))) (J x).toNatClampNeg (J v)))) else none) = _
  rw [if_pos ⟨rfl, inOK h0 h1 hn⟩, J_nat h0 (by omega)]
  have e : upd (fun k => J (D i (k : Nat))) x.toNat (J v) = fun k : Nat => J (up1 (D i) x v (k : Nat)) := by
    funext j
    unfold upd up1
    by_cases hj : j = x.toNat
    · rw [if_pos hj, if_pos (by omega)]
    · rw [if_neg hj, if_neg (by omega)]
  rw [e]
  exact congrArg some (BK_pt hb hi (row := up1 (D i) x v))
theorem g_aN (hi : L[i]? = some (.inr (.inl (t, n)))) (ht : t < 7) (hb : bOK Θ L.length b h) : aN Θ (BK Θ L b D h) (b + i) = some (J n) := by
  unfold aN
  rw [BK_at hb hi]
  show (if t < 7 then some (Int32.ofNat n) else none) = _
  rw [if_pos ht, J_ofNat]
theorem g_aNQ {q : Option Nat} (hi : L[i]? = some (.inr (.inr (t, n, q)))) (ht : t < 7) (hb : bOK Θ L.length b h) : aN Θ (BK Θ L b D h) (b + i) = some (J n) := by
  unfold aN
  rw [BK_at hb hi]
  cases q
  all_goals
    show (if t < 7 then some (Int32.ofNat n) else none) = _
    rw [if_pos ht, J_ofNat]
theorem g_aRQ {x : Int} (hi : L[i]? = some (.inr (.inr (t, n, some r)))) (hn : n ≤ 2147483647) (hb : bOK Θ L.length b h) (h0 : 0 ≤ x) (h1 : x < n) : aRQ Θ (BK Θ L b D h) t (b + i) (J x) = some (b + r + (D i x).toNat) := by
  unfold aRQ
  rw [BK_at hb hi]
  show (if t = t ∧ ¬ (J x < 0 ∨ n ≤ (J x).toNatClampNeg) then (if (J x).toNatClampNeg < n then some (b + r + (D i ((J x).toNatClampNeg : Nat)).toNat) else none) else none) = _
  rw [if_pos ⟨rfl, inOK h0 h1 hn⟩, J_nat h0 (by omega), if_pos (by omega), Int.toNat_of_nonneg h0]
theorem g_aRB {x : Int} (hi : L[i]? = some (.inr (.inr (t, n, none)))) (hn : n ≤ 2147483647) (hb : bOK Θ L.length b h) (h0 : 0 ≤ x) (h1 : x < n) : aRQ Θ (BK Θ L b D h) t (b + i) (J x) = some (D i x).toNat := by
  unfold aRQ
  rw [BK_at hb hi]
  show (if t = t ∧ ¬ (J x < 0 ∨ n ≤ (J x).toNatClampNeg) then (if (J x).toNatClampNeg < n then some (D i ((J x).toNatClampNeg : Nat)).toNat else none) else none) = _
  rw [if_pos ⟨rfl, inOK h0 h1 hn⟩, J_nat h0 (by omega), if_pos (by omega), Int.toNat_of_nonneg h0]
theorem g_aWQ {x : Int} {s : Nat} (hi : L[i]? = some (.inr (.inr (t, n, some r)))) (hs : L[r + s]? = some (.inl (ci, ks))) (hn : n ≤ 2147483647) (hb : bOK Θ L.length b h) (h0 : 0 ≤ x) (h1 : x < n) : aWQ Θ (BK Θ L b D h) t ci (b + i) (J x) (b + r + s) = some (BK Θ L b (up2 D i x s) h) := by
  unfold aWQ
  rw [BK_at hb hi, show b + r + s = b + (r + s) by omega, BK_at hb hs]
  show (if (t = t ∧ ci = ci) ∧ ¬ (J x < 0 ∨ n ≤ (J x).toNatClampNeg) then some (pt Θ (BK Θ L b D h) (b + i) (aQ t n (va_up (fun k => if k < n then some (b + r + (D i (k : Nat)).toNat) else none) (J x).toNatClampNeg (some (b + (r + s)))))) else none) = _
  rw [if_pos ⟨⟨rfl, rfl⟩, inOK h0 h1 hn⟩, J_nat h0 (by omega)]
  have e : va_up (fun k => if k < n then some (b + r + (D i (k : Nat)).toNat) else none) x.toNat (some (b + (r + s))) = fun k : Nat => if k < n then some (b + r + (up1 (D i) x s (k : Nat)).toNat) else none := by
    funext j
    unfold va_up up1
    by_cases hj : j = x.toNat
    · rw [if_pos hj, if_pos (show j < n by omega), if_pos (show (j : Int) = x by omega), Int.toNat_natCast, Nat.add_assoc]
    · rw [if_neg hj, if_neg (show ¬ (j : Int) = x by omega)]
  rw [e]
  exact congrArg some (BK_pt hb hi (row := up1 (D i) x s))
theorem g_aWB {x : Int} {v c : Nat} {fs : List Value} (hi : L[i]? = some (.inr (.inr (t, n, none)))) (hv : gt Θ (BK Θ L b D h) v = some (oB c fs)) (hn : n ≤ 2147483647) (hb : bOK Θ L.length b h) (h0 : 0 ≤ x) (h1 : x < n) : aWQ Θ (BK Θ L b D h) t c (b + i) (J x) v = some (BK Θ L b (up2 D i x v) h) := by
  unfold aWQ
  rw [BK_at hb hi, hv]
  show (if (t = t ∧ c = c) ∧ ¬ (J x < 0 ∨ n ≤ (J x).toNatClampNeg) then some (pt Θ (BK Θ L b D h) (b + i) (aQ t n (va_up (fun k => if k < n then some (D i (k : Nat)).toNat else none) (J x).toNatClampNeg (some v)))) else none) = _
  rw [if_pos ⟨⟨rfl, rfl⟩, inOK h0 h1 hn⟩, J_nat h0 (by omega)]
  have e : va_up (fun k => if k < n then some (D i (k : Nat)).toNat else none) x.toNat (some v) = fun k : Nat => if k < n then some (up1 (D i) x v (k : Nat)).toNat else none := by
    funext j
    unfold va_up up1
    by_cases hj : j = x.toNat
    · rw [if_pos hj, if_pos (show j < n by omega), if_pos (show (j : Int) = x by omega), Int.toNat_natCast]
    · rw [if_neg hj, if_neg (show ¬ (j : Int) = x by omega)]
  rw [e]
  exact congrArg some (BK_pt hb hi (row := up1 (D i) x v))
theorem bOK_app {m : Nat} {e : mE} (hb : bOK Θ m b h) : bOK Θ m b (h ++ [e]) := ⟨hb.1, by rw [List.length_append]; have := hb.2; omega⟩
theorem bOK_BK {m b2 : Nat} {L2 : List Sh} {D2 : Nat → Int → Int} (hb : bOK Θ m b h) : bOK Θ m b (BK Θ L2 b2 D2 h) := ⟨hb.1, by rw [BK_len]; exact hb.2⟩
theorem BK_app {e : mE} (hb : bOK Θ L.length b h) : BK Θ L b D h ++ [e] = BK Θ L b D (h ++ [e]) := by
  obtain ⟨h1, h2⟩ := hb
  unfold BK
  rw [List.mapIdx_append]
  congr 1
  simp only [List.mapIdx_cons, List.mapIdx_nil, Nat.zero_add]
  rw [if_neg (by omega)]
/-- a heap that holds a block -/
def HB (Θ : mW) (L : List Sh) (b : Nat) (D : Nat → Int → Int) (h : mH) : Prop := bOK Θ L.length b h ∧ BK Θ L b D h = h
theorem HB.ok (hh : HB Θ L b D h) : bOK Θ L.length b h := hh.1
theorem HB.at {s : Sh} (hh : HB Θ L b D h) (hi : L[i]? = some s) : gt Θ h (b + i) = some (shC b s (D i)) := by
  have := BK_at (D := D) hh.1 hi
  rwa [hh.2] at this
theorem HB.of (hb : bOK Θ L.length b h) (hg : ∀ (i : Nat) (s : Sh), L[i]? = some s → gt Θ h (b + i) = some (shC b s (D i))) : HB Θ L b D h := by
  refine ⟨hb, ?_⟩
  obtain ⟨h1, h2⟩ := hb
  apply List.ext_getElem?
  intro j
  unfold BK
  rw [List.getElem?_mapIdx]
  by_cases hr : b ≤ mwB Θ + j ∧ mwB Θ + j < b + L.length
  · simp only [if_pos hr]
    have hl : mwB Θ + j - b < L.length := by omega
    have h3 := hg (mwB Θ + j - b) _ (List.getElem?_eq_getElem hl)
    rw [show b + (mwB Θ + j - b) = mwB Θ + j by omega] at h3
    have h4 := (gt_some h3).2
    rw [show mwB Θ + j - mwB Θ = j by omega] at h4
    rw [h4, Option.map_some, List.getD_eq_getElem?_getD, List.getElem?_eq_getElem hl]
    rfl
  · simp only [if_neg hr, Option.map_id_fun', id_eq]
theorem HB.self (hb : bOK Θ L.length b h) : HB Θ L b D (BK Θ L b D h) := HB.of (bOK_BK hb) (fun i s hi => BK_at hb hi)
theorem HB.app {e : mE} (hh : HB Θ L b D h) : HB Θ L b D (h ++ [e]) := HB.of (bOK_app hh.1) (fun i s hi => gt_app (hh.at hi))
theorem HB.frame {h2 : mH} (hh : HB Θ L b D h) (hl : h.length ≤ h2.length) (hg : ∀ x, b ≤ x → x < b + L.length → gt Θ h2 x = gt Θ h x) : HB Θ L b D h2 :=
  HB.of ⟨hh.1.1, Nat.le_trans hh.1.2 (by omega)⟩ (fun i s hi => by
    have hl := (List.getElem?_eq_some_iff.mp hi).1
    rw [hg _ (by omega) (by omega)]
    exact hh.at hi)
theorem HB.other {b2 : Nat} {L2 : List Sh} {D2 : Nat → Int → Int} (hh : HB Θ L b D h) (hb : bOK Θ L2.length b2 h) (hd : b + L.length ≤ b2 ∨ b2 + L2.length ≤ b) : HB Θ L b D (BK Θ L2 b2 D2 h) :=
  hh.frame (by rw [BK_len]; exact Nat.le_refl _) (fun x h1 h2 => by rw [BK_gt hb, if_neg (by omega)])
theorem msz_map {h h2 : mH} (hl : h2.map msz1 = h.map msz1) : msz h2 = msz h := by unfold msz; rw [hl]
theorem HB.msz {D2 : Nat → Int → Int} (hh : HB Θ L b D h) : msz (BK Θ L b D2 h) = msz h := by
  apply msz_map
  apply List.ext_getElem?
  intro j
  rw [List.getElem?_map, List.getElem?_map]
  have e := hh.2
  have ej : (BK Θ L b D h)[j]? = h[j]? := by rw [e]
  rw [← ej]
  unfold BK
  rw [List.getElem?_mapIdx, List.getElem?_mapIdx, Option.map_map, Option.map_map]
  congr 1
  funext x
  by_cases hr : b ≤ mwB Θ + j ∧ mwB Θ + j < b + L.length
  · simp only [Function.comp, if_pos hr]
    generalize L.getD (mwB Θ + j - b) sh0 = s
    rcases s with ⟨ci, ks⟩ | ⟨t, n⟩ | ⟨t, n, _ | r⟩ <;> simp [shC, msz1]
  · simp only [Function.comp, if_neg hr]
end BL
