/-! sets of ships that fit into gaps: no machine here -/
section PK
/-- the weight of a set -/
def MT (f : Int → Int) (σ : Nat → Bool) : Nat → Int
  | 0 => 0
  | k + 1 => MT f σ k + (if σ k = true then f k else 0)
theorem MT_ext {f : Int → Int} {σ τ : Nat → Bool} : ∀ n : Nat, (∀ k, k < n → σ k = τ k) → MT f σ n = MT f τ n
  | 0, _ => rfl
  | n + 1, h => by rw [MT, MT, MT_ext n (fun k hk => h k (by omega)), h n (by omega)]
theorem MT_0 {f : Int → Int} {σ : Nat → Bool} : ∀ n : Nat, (∀ k : Nat, k < n → 0 ≤ f k) → 0 ≤ MT f σ n
  | 0, _ => by simp [MT]
  | n + 1, h => by
    have := MT_0 (σ := σ) n (fun k hk => h k (by omega))
    have := h n (by omega)
    rw [MT]
    split <;> omega
theorem MT_emp {f : Int → Int} {σ : Nat → Bool} : ∀ n : Nat, (∀ k, k < n → σ k = false) → MT f σ n = 0
  | 0, _ => rfl
  | n + 1, h => by
    rw [MT, MT_emp n (fun k hk => h k (by omega)), h n (by omega)]
    rfl
theorem MT_ge {f : Int → Int} {σ : Nat → Bool} {n : Nat} : ∀ m : Nat, n ≤ m → (∀ k, n ≤ k → k < m → σ k = false) → MT f σ m = MT f σ n
  | 0, h, _ => by rw [show n = 0 by omega]
  | m + 1, h, g => by
    by_cases c : n = m + 1
    · rw [c]
    · rw [MT, MT_ge m (by omega) (fun k a b => g k a (by omega)), g m (by omega) (by omega)]
      simp
def wi (σ : Nat → Bool) (k : Nat) : Nat → Bool := fun j => decide (j = k) || σ j
def wo (σ : Nat → Bool) (k : Nat) : Nat → Bool := fun j => !decide (j = k) && σ j
def df (σ π : Nat → Bool) : Nat → Bool := fun k => σ k && !π k
theorem MT_wi {f : Int → Int} {σ : Nat → Bool} {k : Nat} : ∀ n : Nat, k < n → σ k = false → MT f (wi σ k) n = MT f σ n + f k
  | 0, h, _ => by omega
  | n + 1, h, e => by
    rw [MT, MT]
    by_cases c : k = n
    · subst c
      rw [MT_ext (f := f) (σ := wi σ k) (τ := σ) k (fun j hj => by unfold wi; simp; omega), e]
      have : wi σ k k = true := by unfold wi; simp
      rw [this]
      simp
    · rw [MT_wi n (by omega) e]
      have : wi σ k n = σ n := by unfold wi; simp; omega
      rw [this]
      omega
theorem wi_wo {σ : Nat → Bool} {k : Nat} (h : σ k = true) : wi (wo σ k) k = σ := by
  funext j
  unfold wi wo
  by_cases c : j = k
  · subst c; simp [h]
  · simp [c]
/-- the set fits into the gaps -/
def FT (f : Int → Int) (n : Nat) : List Int → (Nat → Bool) → Prop
  | [], σ => ∀ k, k < n → σ k = false
  | g :: gs, σ => ∃ π : Nat → Bool, (∀ k, k < n → π k = true → σ k = true) ∧ MT f π n ≤ g ∧ FT f n gs (df σ π)
theorem FT_ext {f : Int → Int} {n : Nat} : ∀ (gs : List Int) {σ τ : Nat → Bool}, (∀ k, k < n → σ k = τ k) → FT f n gs σ → FT f n gs τ
  | [], σ, τ, h, a => fun k hk => by rw [← h k hk]; exact a k hk
  | g :: gs, σ, τ, h, ⟨π, a, b, c⟩ => ⟨π, fun k hk x => by rw [← h k hk]; exact a k hk x, b, FT_ext gs (fun k hk => by unfold df; rw [h k hk]) c⟩
theorem FT_emp {f : Int → Int} {n : Nat} : ∀ (gs : List Int) {σ : Nat → Bool}, (∀ g, g ∈ gs → 0 ≤ g) → (∀ k, k < n → σ k = false) → FT f n gs σ
  | [], σ, _, h => h
  | g :: gs, σ, hg, h => ⟨fun _ => false, fun k hk x => (by cases x), by rw [MT_emp n (fun _ _ => rfl)]; exact hg g List.mem_cons_self, FT_emp gs (fun g x => hg g (List.mem_cons_of_mem _ x)) (fun k hk => by unfold df; rw [h k hk]; rfl)⟩
theorem FT_snoc {f : Int → Int} {n : Nat} {g : Int} : ∀ (gs : List Int) {σ : Nat → Bool}, FT f n (gs ++ [g]) σ ↔ ∃ π : Nat → Bool, (∀ k, k < n → π k = true → σ k = true) ∧ MT f π n ≤ g ∧ FT f n gs (df σ π)
  | [], σ => Iff.rfl
  | g0 :: gs, σ => by
    constructor
    · rintro ⟨π0, a0, b0, c0⟩
      obtain ⟨π, a, b, c⟩ := (FT_snoc gs).mp c0
      refine ⟨π, fun k hk x => ?_, b, π0, fun k hk x => ?_, b0, FT_ext gs (fun k hk => ?_) c⟩
      · have := a k hk x
        unfold df at this
        simp at this
        exact this.1
      · unfold df
        have h1 := a0 k hk x
        by_cases y : π k = true
        · have := a k hk y
          unfold df at this
          simp [x] at this
        · simp [h1, y]
      · unfold df
        cases σ k <;> cases π k <;> cases π0 k <;> rfl
    · rintro ⟨π, a, b, π0, a0, b0, c⟩
      refine ⟨π0, fun k hk x => ?_, b0, (FT_snoc gs).mpr ⟨π, fun k hk x => ?_, b, FT_ext gs (fun k hk => ?_) c⟩⟩
      · have := a0 k hk x
        unfold df at this
        simp at this
        exact this.1
      · unfold df
        have h1 := a k hk x
        by_cases y : π0 k = true
        · have := a0 k hk y
          unfold df at this
          simp [x] at this
        · simp [h1, y]
      · unfold df
        cases σ k <;> cases π k <;> cases π0 k <;> rfl
/-- a ship into one of the gaps -/
def tk (w : Int) : List Int → List (List Int)
  | [] => []
  | g :: gs => (if w ≤ g then [(g - w) :: gs] else []) ++ (tk w gs).map (fun x => g :: x)
theorem mem_tk {w g : Int} {gs x : List Int} : x ∈ tk w (g :: gs) ↔ (w ≤ g ∧ x = (g - w) :: gs) ∨ ∃ y, y ∈ tk w gs ∧ x = g :: y := by
  rw [tk, List.mem_append, List.mem_map]
  constructor
  · rintro (h | ⟨y, a, b⟩)
    · by_cases c : w ≤ g
      · rw [if_pos c] at h
        exact Or.inl ⟨c, List.mem_singleton.mp h⟩
      · rw [if_neg c] at h
        cases h
    · exact Or.inr ⟨y, a, b.symm⟩
  · rintro (⟨a, b⟩ | ⟨y, a, b⟩)
    · left
      rw [if_pos a]
      exact List.mem_singleton.mpr b
    · exact Or.inr ⟨y, a, b.symm⟩
theorem tk_le {w : Int} (hw : 0 ≤ w) {B : Int} : ∀ (gs x : List Int), x ∈ tk w gs → (∀ g, g ∈ gs → 0 ≤ g ∧ g ≤ B) → ∀ g, g ∈ x → 0 ≤ g ∧ g ≤ B
  | [], x, h, _ => by cases h
  | g0 :: gs, x, h, hg => by
    have h0 := hg g0 List.mem_cons_self
    rcases mem_tk.mp h with ⟨a, rfl⟩ | ⟨y, a, rfl⟩
    · intro g hx
      rcases List.mem_cons.mp hx with rfl | hx
      · omega
      · exact hg g (List.mem_cons_of_mem _ hx)
    · intro g hx
      rcases List.mem_cons.mp hx with rfl | hx
      · exact h0
      · exact tk_le hw gs y a (fun g z => hg g (List.mem_cons_of_mem _ z)) g hx
theorem tk_no {w : Int} : ∀ (gs : List Int), (∀ g, g ∈ gs → g < w) → tk w gs = []
  | [], _ => rfl
  | g :: gs, h => by
    rw [tk, tk_no gs (fun x hx => h x (List.mem_cons_of_mem _ hx)), if_neg (by have := h g List.mem_cons_self; omega)]
    rfl
theorem FT_add {f : Int → Int} {n k : Nat} (hf : ∀ j : Nat, j < n → 0 ≤ f j) (hk : k < n) : ∀ (gs : List Int) {σ : Nat → Bool}, σ k = false → (FT f n gs (wi σ k) ↔ ∃ x, x ∈ tk (f k) gs ∧ FT f n x σ)
  | [], σ, h => by
    constructor
    · intro a
      have := a k hk
      unfold wi at this
      simp at this
    · rintro ⟨x, a, -⟩
      cases a
  | g :: gs, σ, h => by
    constructor
    · rintro ⟨π, a, b, c⟩
      by_cases e : π k = true
      · have e1 : MT f π n = MT f (wo π k) n + f k := by
          have := MT_wi (f := f) (σ := wo π k) n hk (by unfold wo; simp)
          rw [wi_wo e] at this
          exact this
        have e2 := MT_0 (f := f) (σ := wo π k) n hf
        refine ⟨(g - f k) :: gs, mem_tk.mpr (Or.inl ⟨by omega, rfl⟩), wo π k, fun j hj x => ?_, by omega, FT_ext gs (fun j hj => ?_) c⟩
        · unfold wo at x
          simp at x
          have := a j hj x.2
          unfold wi at this
          simp [x.1] at this
          exact this
        · unfold df wi wo
          by_cases y : j = k
          · subst y; simp [h, e]
          · simp [y]
      · have e' : π k = false := by simpa using e
        have c' : FT f n gs (wi (df σ π) k) := FT_ext gs (fun j hj => by
          unfold df wi
          by_cases y : j = k
          · subst y; simp [e']
          · simp [y]) c
        obtain ⟨y, p, q⟩ := (FT_add hf hk gs (by unfold df; rw [h]; rfl)).mp c'
        refine ⟨g :: y, mem_tk.mpr (Or.inr ⟨y, p, rfl⟩), π, fun j hj x => ?_, b, q⟩
        have := a j hj x
        unfold wi at this
        by_cases z : j = k
        · subst z; rw [e'] at x; cases x
        · simpa [z] using this
    · rintro ⟨x, p, q⟩
      rcases mem_tk.mp p with ⟨a, rfl⟩ | ⟨y, a, rfl⟩
      · obtain ⟨π, u, v, w⟩ := q
        by_cases e : π k = true
        · have := u k hk e
          rw [h] at this
          cases this
        · have e' : π k = false := by simpa using e
          refine ⟨wi π k, fun j hj x => ?_, by rw [MT_wi n hk e']; omega, FT_ext gs (fun j hj => ?_) w⟩
          · unfold wi at x ⊢
            by_cases y : j = k
            · simp [y]
            · simp [y] at x ⊢
              exact u j hj x
          · unfold df wi
            by_cases y : j = k
            · subst y; simp [h]
            · simp [y]
      · obtain ⟨π, u, v, w⟩ := q
        have e' : π k = false := by
          by_cases e : π k = true
          · have := u k hk e
            rw [h] at this
            cases this
          · simpa using e
        have := (FT_add hf hk gs (σ := df σ π) (by unfold df; rw [h]; rfl)).mpr ⟨y, a, w⟩
        refine ⟨π, fun j hj x => ?_, v, FT_ext gs (fun j hj => ?_) this⟩
        · unfold wi
          simp [u j hj x]
        · unfold df wi
          by_cases z : j = k
          · subst z; simp [e']
          · simp [z]
/-- what can be had: how many ships, how many metres -/
def ach : List Int → List Int → Int → Int → Prop
  | [], _, c, m => c = 0 ∧ m = 0
  | w :: ws, gs, c, m => ach ws gs c m ∨ ∃ x, x ∈ tk w gs ∧ ach ws x (c - 1) (m - w)
theorem ach_rng : ∀ (ws gs : List Int) (c m : Int), ach ws gs c m → 0 ≤ c ∧ c ≤ ws.length
  | [], gs, c, m, h => by have := h.1; simp; omega
  | w :: ws, gs, c, m, h => by
    rw [List.length_cons]
    rcases h with h | ⟨x, -, h⟩
    · have := ach_rng ws gs c m h
      omega
    · have := ach_rng ws x _ _ h
      omega
theorem ach_00 : ∀ (ws gs : List Int), ach ws gs 0 0
  | [], _ => ⟨rfl, rfl⟩
  | _ :: ws, gs => Or.inl (ach_00 ws gs)
/-- a row of numbers as a list -/
def wl (f : Int → Int) : Nat → Int → List Int
  | 0, _ => []
  | r + 1, i => f i :: wl f r (i + 1)
theorem wl_len {f : Int → Int} : ∀ (r : Nat) (i : Int), (wl f r i).length = r
  | 0, _ => rfl
  | r + 1, i => by rw [wl, List.length_cons, wl_len r]
theorem wl_snoc {f : Int → Int} : ∀ (r : Nat) (i : Int), wl f (r + 1) i = wl f r i ++ [f (i + r)]
  | 0, i => by simp [wl]
  | r + 1, i => by
    rw [show wl f (r + 1 + 1) i = f i :: wl f (r + 1) (i + 1) from rfl, wl_snoc r, show i + 1 + (r : Int) = i + ((r + 1 : Nat) : Int) by omega]
    rfl
theorem wl_ext {f g : Int → Int} : ∀ (r : Nat) (i : Int), (∀ j : Int, i ≤ j → j < i + r → f j = g j) → wl f r i = wl g r i
  | 0, _, _ => rfl
  | r + 1, i, h => by rw [wl, wl, h i (by omega) (by omega), wl_ext r (i + 1) (fun j a b => h j (by omega) (by omega))]
theorem wl_mem {f : Int → Int} {x : Int} : ∀ (r : Nat) (i : Int), x ∈ wl f r i ↔ ∃ j : Int, i ≤ j ∧ j < i + r ∧ f j = x
  | 0, i => by
    constructor
    · intro h; cases h
    · rintro ⟨j, a, b, -⟩; omega
  | r + 1, i => by
    rw [wl, List.mem_cons, wl_mem r]
    constructor
    · rintro (h | ⟨j, a, b, c⟩)
      · exact ⟨i, by omega, by omega, h.symm⟩
      · exact ⟨j, by omega, by omega, c⟩
    · rintro ⟨j, a, b, c⟩
      by_cases d : j = i
      · left; rw [← c, d]
      · exact Or.inr ⟨j, by omega, by omega, c⟩
theorem tk_wl {f : Int → Int} {w : Int} {x : List Int} : ∀ (r : Nat) (i : Int), x ∈ tk w (wl f r i) ↔ ∃ j : Int, i ≤ j ∧ j < i + r ∧ w ≤ f j ∧ x = wl (up1 f j (f j - w)) r i
  | 0, i => by
    constructor
    · intro h; cases h
    · rintro ⟨j, a, b, -⟩; omega
  | r + 1, i => by
    rw [wl, mem_tk]
    constructor
    · rintro (⟨a, b⟩ | ⟨y, a, b⟩)
      · refine ⟨i, by omega, by omega, a, ?_⟩
        rw [b, wl, up1_eq, wl_ext (f := up1 f i (f i - w)) (g := f) r (i + 1) (fun j p q => up1_nj (by omega))]
      · obtain ⟨j, p, q, u, v⟩ := (tk_wl r (i + 1)).mp a
        refine ⟨j, by omega, by omega, u, ?_⟩
        rw [b, v, wl, up1_nj (by omega)]
    · rintro ⟨j, p, q, u, v⟩
      rw [wl] at v
      by_cases c : j = i
      · subst c
        left
        refine ⟨u, ?_⟩
        rw [v, up1_eq, wl_ext (f := up1 f j (f j - w)) (g := f) r (j + 1) (fun k p q => up1_nj (by omega))]
      · right
        refine ⟨wl (up1 f j (f j - w)) r (i + 1), (tk_wl r (i + 1)).mpr ⟨j, by omega, by omega, u, rfl⟩, ?_⟩
        rw [v, up1_nj (by omega)]
def one1 : Int → Int := fun _ => 1
theorem ach_FT {f : Int → Int} {n : Nat} (hf : ∀ j : Nat, j < n → 0 ≤ f j) : ∀ (r i : Nat) (gs : List Int) (c m : Int), i + r = n → (∀ g, g ∈ gs → 0 ≤ g) → (ach (wl f r i) gs c m ↔ ∃ σ : Nat → Bool, (∀ k, k < i → σ k = false) ∧ FT f n gs σ ∧ MT one1 σ n = c ∧ MT f σ n = m)
  | 0, i, gs, c, m, hi, hg => by
    constructor
    · rintro ⟨rfl, rfl⟩
      exact ⟨fun _ => false, fun _ _ => rfl, FT_emp gs hg (fun _ _ => rfl), MT_emp n (fun _ _ => rfl), MT_emp n (fun _ _ => rfl)⟩
    · rintro ⟨σ, a, b, u, v⟩
      have a' : ∀ k, k < n → σ k = false := fun k hk => a k (by omega)
      rw [MT_emp n a'] at u v
      exact ⟨u.symm, v.symm⟩
  | r + 1, i, gs, c, m, hi, hg => by
    have hgx : ∀ x, x ∈ tk (f i) gs → ∀ g, g ∈ x → 0 ≤ g := fun x hx g hgx => by
      have hB : ∃ B : Int, ∀ g, g ∈ gs → 0 ≤ g ∧ g ≤ B := by
        clear hx hgx
        induction gs with
        | nil => exact ⟨0, fun g h => by cases h⟩
        | cons a l ih =>
          obtain ⟨B, hB⟩ := ih (fun g h => hg g (List.mem_cons_of_mem _ h))
          refine ⟨max a B, fun g h => ⟨hg g h, ?_⟩⟩
          rcases List.mem_cons.mp h with rfl | h
          · omega
          · have := (hB g h).2
            omega
      obtain ⟨B, hB⟩ := hB
      exact (tk_le (hf i (by omega)) gs x hx hB g hgx).1
    have e1 : ((i + 1 : Nat) : Int) = (i : Int) + 1 := by omega
    rw [wl, ← e1]
    constructor
    · rintro (h | ⟨x, hx, h⟩)
      · obtain ⟨σ, a, b⟩ := (ach_FT hf r (i + 1) gs c m (by omega) hg).mp h
        exact ⟨σ, fun k hk => a k (by omega), b⟩
      · obtain ⟨σ, a, b, u, v⟩ := (ach_FT hf r (i + 1) x (c - 1) (m - f i) (by omega) (hgx x hx)).mp h
        have si := a i (by omega)
        refine ⟨wi σ i, fun k hk => ?_, (FT_add hf (by omega) gs si).mpr ⟨x, hx, b⟩, ?_, ?_⟩
        · unfold wi
          rw [a k (by omega)]
          simp
          omega
        · rw [MT_wi n (by omega) si, u]
          show c - 1 + 1 = c
          omega
        · rw [MT_wi n (by omega) si, v]
          omega
    · rintro ⟨σ, a, b, u, v⟩
      by_cases e : σ i = true
      · have w0 : wo σ i i = false := by unfold wo; simp
        have e2 := wi_wo e
        rw [← e2] at b u v
        obtain ⟨x, hx, q⟩ := (FT_add hf (by omega) gs w0).mp b
        rw [MT_wi n (by omega) w0] at u v
        refine Or.inr ⟨x, hx, (ach_FT hf r (i + 1) x _ _ (by omega) (hgx x hx)).mpr ⟨wo σ i, fun k hk => ?_, q, ?_, ?_⟩⟩
        · by_cases y : k = i
          · rw [y]; exact w0
          · unfold wo
            rw [a k (by omega)]
            simp
        · have : one1 i = 1 := rfl
          omega
        · omega
      · refine Or.inl ((ach_FT hf r (i + 1) gs c m (by omega) hg).mpr ⟨σ, fun k hk => ?_, b, u, v⟩)
        by_cases y : k = i
        · rw [y]; simpa using e
        · exact a k (by omega)
/-- ships that don't wait weigh more than any gap -/
theorem ach_61 : ∀ (ws gs : List Int) (c m : Int), (∀ w, w ∈ ws → 0 ≤ w) → (∀ g, g ∈ gs → 0 ≤ g ∧ g ≤ 60) → (ach ws gs c m ↔ ach (ws.filter (fun w => decide (w ≤ 60))) gs c m)
  | [], _, _, _, _, _ => Iff.rfl
  | w :: ws, gs, c, m, hw, hg => by
    have hw' : ∀ x, x ∈ ws → 0 ≤ x := fun x hx => hw x (List.mem_cons_of_mem _ hx)
    have h0 := hw w List.mem_cons_self
    by_cases e : w ≤ 60
    · rw [List.filter_cons_of_pos (by simpa using e)]
      constructor
      · rintro (h | ⟨x, hx, h⟩)
        · exact Or.inl ((ach_61 ws gs c m hw' hg).mp h)
        · exact Or.inr ⟨x, hx, (ach_61 ws x _ _ hw' (tk_le h0 gs x hx hg)).mp h⟩
      · rintro (h | ⟨x, hx, h⟩)
        · exact Or.inl ((ach_61 ws gs c m hw' hg).mpr h)
        · exact Or.inr ⟨x, hx, (ach_61 ws x _ _ hw' (tk_le h0 gs x hx hg)).mpr h⟩
    · rw [List.filter_cons_of_neg (by simpa using e), ← ach_61 ws gs c m hw' hg]
      constructor
      · rintro (h | ⟨x, hx, h⟩)
        · exact h
        · rw [tk_no gs (fun g h9 => by have := hg g h9; omega)] at hx
          cases hx
      · exact Or.inl
/-- the most ships, the most metres -/
def isC (ws gs : List Int) (v : Int) : Prop := (∃ m, ach ws gs v m) ∧ ∀ c m, ach ws gs c m → c ≤ v
def isM (ws gs : List Int) (v : Int) : Prop := (∃ c, ach ws gs c v) ∧ ∀ c m, ach ws gs c m → m ≤ v
theorem isC_eq {ws gs : List Int} {v u : Int} (h : isC ws gs v) (g : isC ws gs u) : v = u := by
  obtain ⟨⟨m, a⟩, b⟩ := h
  obtain ⟨⟨l, c⟩, d⟩ := g
  have := b _ _ c
  have := d _ _ a
  omega
theorem isM_eq {ws gs : List Int} {v u : Int} (h : isM ws gs v) (g : isM ws gs u) : v = u := by
  obtain ⟨⟨m, a⟩, b⟩ := h
  obtain ⟨⟨l, c⟩, d⟩ := g
  have := b _ _ c
  have := d _ _ a
  omega
theorem isC_61 {ws gs : List Int} {v : Int} (hw : ∀ w, w ∈ ws → 0 ≤ w) (hg : ∀ g, g ∈ gs → 0 ≤ g ∧ g ≤ 60) (h : isC ws gs v) : isC (ws.filter (fun w => decide (w ≤ 60))) gs v := by
  obtain ⟨⟨m, a⟩, b⟩ := h
  exact ⟨⟨m, (ach_61 ws gs _ _ hw hg).mp a⟩, fun c m x => b c m ((ach_61 ws gs _ _ hw hg).mpr x)⟩
theorem isM_61 {ws gs : List Int} {v : Int} (hw : ∀ w, w ∈ ws → 0 ≤ w) (hg : ∀ g, g ∈ gs → 0 ≤ g ∧ g ≤ 60) (h : isM ws gs v) : isM (ws.filter (fun w => decide (w ≤ 60))) gs v := by
  obtain ⟨⟨m, a⟩, b⟩ := h
  exact ⟨⟨m, (ach_61 ws gs _ _ hw hg).mp a⟩, fun c m x => b c m ((ach_61 ws gs _ _ hw hg).mpr x)⟩
/-! sets as numbers -/
def tb (s : Nat) : Nat → Bool := fun k => Nat.testBit s k
theorem bit_and (a b : Nat) : (a &&& b) / 2 = a / 2 &&& b / 2 ∧ ((a &&& b) % 2 = 1 ↔ a % 2 = 1 ∧ b % 2 = 1) := ⟨Nat.and_div_two, Nat.and_mod_two_eq_one⟩
theorem sub_le : ∀ (m p q s : Nat), p ≤ m → q &&& s = q → p &&& s = p → q < p → q ≤ (p - 1) &&& s
  | 0, p, q, s, h, _, _, hq => by omega
  | m + 1, p, q, s, h, h1, h2, hq => by
    have a := bit_and q s
    have b := bit_and p s
    have c := bit_and (p - 1) s
    rw [h1] at a
    rw [h2] at b
    by_cases e : p % 2 = 1
    · have e1 : (p - 1) / 2 = p / 2 := by omega
      have e2 : (p - 1) % 2 = 0 := by omega
      rw [e1, ← b.1] at c
      omega
    · have e1 : (p - 1) / 2 = p / 2 - 1 := by omega
      have := sub_le m (p / 2) (q / 2) (s / 2) (by omega) a.1.symm b.1.symm (by omega)
      rw [e1] at c
      omega
theorem sub_xor : ∀ (m q s : Nat), s ≤ m → q &&& s = q → s - q = s ^^^ q
  | 0, q, s, h, h1 => by
    obtain rfl : s = 0 := by omega
    have : q = 0 := by rw [← h1]; simp
    subst this
    rfl
  | m + 1, q, s, h, h1 => by
    by_cases z : s = 0
    · subst z
      have : q = 0 := by rw [← h1]; simp
      subst this
      rfl
    · have a := bit_and q s
      rw [h1] at a
      have x1 : (s ^^^ q) / 2 = s / 2 ^^^ q / 2 := Nat.xor_div_two
      have x2 : (s ^^^ q) % 2 = 1 ↔ ¬ (s % 2 = 1 ↔ q % 2 = 1) := Nat.xor_mod_two_eq_one
      have le : q ≤ s := by rw [← h1]; exact Nat.and_le_right
      have le2 : q / 2 ≤ s / 2 := by omega
      rw [← sub_xor m (q / 2) (s / 2) (by omega) a.1.symm] at x1
      have := Nat.mod_two_eq_zero_or_one (s ^^^ q)
      omega
def msk (π : Nat → Bool) : Nat → Nat
  | 0 => 0
  | k + 1 => msk π k ||| (if π k = true then 2 ^ k else 0)
theorem msk_bit {π : Nat → Bool} {j : Nat} : ∀ n : Nat, Nat.testBit (msk π n) j = (decide (j < n) && π j)
  | 0 => by simp [msk]
  | n + 1 => by
    rw [msk, Nat.testBit_or, msk_bit n]
    by_cases c : j = n
    · subst c
      by_cases d : π j = true
      · simp [d, Nat.testBit_two_pow_self]
      · simp [d]
    · by_cases d : π n = true
      · rw [if_pos d, Nat.testBit_two_pow_of_ne (fun x => c x.symm)]
        have : decide (j < n + 1) = decide (j < n) := by simp; omega
        rw [this]
        simp
      · rw [if_neg d]
        have : decide (j < n + 1) = decide (j < n) := by simp; omega
        rw [this]
        simp
theorem msk_lt {π : Nat → Bool} : ∀ n : Nat, msk π n < 2 ^ n
  | 0 => by simp [msk]
  | n + 1 => by
    rw [msk]
    have := msk_lt (π := π) n
    have h2 : 2 ^ n < 2 ^ (n + 1) := by rw [Nat.pow_succ]; have := Nat.two_pow_pos n; omega
    refine Nat.or_lt_two_pow (by omega) ?_
    split
    · exact h2
    · exact Nat.two_pow_pos _
theorem sub_bit {q s : Nat} : q &&& s = q ↔ ∀ k, Nat.testBit q k = true → Nat.testBit s k = true := by
  constructor
  · intro h k hk
    rw [← h, Nat.testBit_and] at hk
    simp at hk
    exact hk.2
  · intro h
    apply Nat.eq_of_testBit_eq
    intro k
    rw [Nat.testBit_and]
    by_cases c : Nat.testBit q k = true
    · rw [c, h k c]; rfl
    · simp [c]
/-- a table says which sets fit -/
def TB (f : Int → Int) (n : Nat) (gs : List Int) (row : Int → Int) : Prop := ∀ s : Nat, s < 2 ^ n → (row s = 0 ∨ row s = 1) ∧ (row s = 1 ↔ FT f n gs (tb s))
theorem TB_0 {f : Int → Int} {n : Nat} {row : Int → Int} (h : ∀ s : Nat, s < 2 ^ n → row s = if s = 0 then 1 else 0) : TB f n [] row := by
  intro s hs
  rw [h s hs]
  refine ⟨by split <;> omega, ?_⟩
  constructor
  · intro e k hk
    have : s = 0 := by
      split at e
      · assumption
      · omega
    subst this
    exact Nat.zero_testBit k
  · intro e
    have : s = 0 := by
      apply Nat.eq_of_testBit_eq
      intro k
      rw [Nat.zero_testBit]
      by_cases c : k < n
      · exact e k c
      · exact Nat.testBit_lt_two_pow (Nat.lt_of_lt_of_le hs (Nat.pow_le_pow_right (by omega) (by omega)))
    rw [if_pos this]
theorem TB_S {f : Int → Int} {n : Nat} {gs : List Int} {row row' : Int → Int} {g : Int} (hg : 0 ≤ g) (h : TB f n gs row) (h' : ∀ s : Nat, s < 2 ^ n → (row' s = 0 ∨ row' s = 1) ∧ (row' s = 1 ↔ row s = 1 ∨ ∃ q : Nat, 0 < q ∧ q &&& s = q ∧ MT f (tb q) n ≤ g ∧ row ((s ^^^ q : Nat) : Int) = 1)) : TB f n (gs ++ [g]) row' := by
  intro s hs
  refine ⟨(h' s hs).1, (h' s hs).2.trans ?_⟩
  rw [FT_snoc]
  constructor
  · rintro (a | ⟨q, a, b, c, d⟩)
    · exact ⟨fun _ => false, fun k hk x => (by cases x), by rw [MT_emp n (fun _ _ => rfl)]; exact hg, FT_ext gs (fun k hk => by unfold df; simp) ((h s hs).2.mp a)⟩
    · have hq : q ≤ s := by rw [← b]; exact Nat.and_le_right
      have hx : s ^^^ q < 2 ^ n := Nat.xor_lt_two_pow hs (by omega)
      refine ⟨tb q, fun k hk x => sub_bit.mp b k x, c, FT_ext gs (fun k hk => ?_) ((h _ hx).2.mp d)⟩
      unfold df tb
      rw [Nat.testBit_xor]
      have := sub_bit.mp b k
      by_cases y : Nat.testBit q k = true
      · rw [y, this y]; rfl
      · simp [y]
  · rintro ⟨π, a, b, c⟩
    by_cases e : ∀ k, k < n → π k = false
    · left
      exact (h s hs).2.mpr (FT_ext gs (fun k hk => by unfold df; rw [e k hk]; simp) c)
    · right
      have hb : ∀ k, k < n → Nat.testBit (msk π n) k = π k := fun k hk => by rw [msk_bit]; simp [hk]
      have hs2 : msk π n &&& s = msk π n := sub_bit.mpr (fun k x => by
        rw [msk_bit] at x
        simp at x
        exact a k x.1 x.2)
      refine ⟨msk π n, ?_, hs2, ?_, ?_⟩
      · apply Nat.pos_of_ne_zero
        intro z
        apply e
        intro k hk
        rw [← hb k hk, z, Nat.zero_testBit]
      · rw [MT_ext (f := f) (σ := tb (msk π n)) (τ := π) n (fun k hk => hb k hk)]
        exact b
      · refine (h _ (Nat.xor_lt_two_pow hs (msk_lt n))).2.mpr (FT_ext gs (fun k hk => ?_) c)
        unfold df tb
        rw [Nat.testBit_xor, hb k hk]
        have := a k hk
        by_cases y : π k = true
        · have z := this y
          unfold tb at z
          rw [y, z]; rfl
        · simp [y]
/-- what the table tells of the most -/
theorem TB_ach {f : Int → Int} {n : Nat} {gs : List Int} {row : Int → Int} (hf : ∀ j : Nat, j < n → 0 ≤ f j) (hg : ∀ g, g ∈ gs → 0 ≤ g) (h : TB f n gs row) {c m : Int} : ach (wl f n 0) gs c m ↔ ∃ s : Nat, s < 2 ^ n ∧ row s = 1 ∧ MT one1 (tb s) n = c ∧ MT f (tb s) n = m := by
  have e := ach_FT hf n 0 gs c m (by omega) hg
  rw [show ((0 : Nat) : Int) = 0 from rfl] at e
  rw [e]
  constructor
  · rintro ⟨σ, -, b, u, v⟩
    have hb : ∀ k, k < n → tb (msk σ n) k = σ k := fun k hk => by unfold tb; rw [msk_bit]; simp [hk]
    refine ⟨msk σ n, msk_lt n, (h _ (msk_lt n)).2.mpr (FT_ext gs (fun k hk => (hb k hk).symm) b), ?_, ?_⟩
    · rw [MT_ext (τ := σ) n hb]; exact u
    · rw [MT_ext (τ := σ) n hb]; exact v
  · rintro ⟨s, a, b, u, v⟩
    exact ⟨tb s, fun k hk => by omega, (h s a).2.mp b, u, v⟩
theorem TB_isC {f : Int → Int} {n : Nat} {gs : List Int} {row : Int → Int} (hf : ∀ j : Nat, j < n → 0 ≤ f j) (hg : ∀ g, g ∈ gs → 0 ≤ g) (h : TB f n gs row) {v : Int} (h1 : ∃ s : Nat, s < 2 ^ n ∧ row s = 1 ∧ MT one1 (tb s) n = v) (h2 : ∀ s : Nat, s < 2 ^ n → row s = 1 → MT one1 (tb s) n ≤ v) : isC (wl f n 0) gs v := by
  obtain ⟨s, a, b, c⟩ := h1
  refine ⟨⟨_, (TB_ach hf hg h).mpr ⟨s, a, b, c, rfl⟩⟩, fun c m x => ?_⟩
  obtain ⟨s, p, q, r, -⟩ := (TB_ach hf hg h).mp x
  rw [← r]
  exact h2 s p q
theorem TB_isM {f : Int → Int} {n : Nat} {gs : List Int} {row : Int → Int} (hf : ∀ j : Nat, j < n → 0 ≤ f j) (hg : ∀ g, g ∈ gs → 0 ≤ g) (h : TB f n gs row) {v : Int} (h1 : ∃ s : Nat, s < 2 ^ n ∧ row s = 1 ∧ MT f (tb s) n = v) (h2 : ∀ s : Nat, s < 2 ^ n → row s = 1 → MT f (tb s) n ≤ v) : isM (wl f n 0) gs v := by
  obtain ⟨s, a, b, c⟩ := h1
  refine ⟨⟨_, (TB_ach hf hg h).mpr ⟨s, a, b, rfl, c⟩⟩, fun c m x => ?_⟩
  obtain ⟨s, p, q, -, r⟩ := (TB_ach hf hg h).mp x
  rw [← r]
  exact h2 s p q
theorem TB_row0 {f : Int → Int} {n : Nat} {gs : List Int} {row : Int → Int} (hg : ∀ g, g ∈ gs → 0 ≤ g) (h : TB f n gs row) : row 0 = 1 := (h 0 (Nat.two_pow_pos n)).2.mpr (FT_emp gs hg (fun k hk => Nat.zero_testBit k))
end PK
