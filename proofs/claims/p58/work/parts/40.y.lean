/-! PROGRAMS: functions over my heap, and mY: what the program yields the method yields -/
def J (a : Int) : Int32 := Int32.ofInt a
def lp {α : Type} (bot : α) (step : α → α) : Nat → α
  | 0 => bot
  | n + 1 => step (lp bot step n)
theorem lp_all {α : Type} {bot : α} {step : α → α} {C : α → Prop} (h0 : C bot) (hs : ∀ a, C a → C (step a)) : ∀ n, C (lp bot step n)
  | 0 => h0
  | n + 1 => hs _ (lp_all h0 hs n)
def jn {α β : Type} (f : α) (g : α → β) : β := g f
def bc {α ρ : Type} (p : Option (α × mH)) (F : α → mH → Option ρ) : Option ρ := match p with
  | some (a, h) => F a h
  | none => none
def bx {α ρ : Type} (p : Option ((α ⊕ Nat) × mH)) (F : α → mH → Option ρ) (G : Nat → mH → Option ρ) : Option ρ := match p with
  | some (.inl a, h) => F a h
  | some (.inr n, h) => G n h
  | none => none
def bn {ρ : Type} (p : Option (Option Nat × mH)) (F : Nat → mH → Option ρ) (G : mH → Option ρ) : Option ρ := match p with
  | some (some a, h) => F a h
  | some (none, h) => G h
  | none => none
def bo {α ρ : Type} (p : Option α) (F : α → Option ρ) : Option ρ := match p with
  | some a => F a
  | none => none
def xp {β : Type} (n : Nat) (h : mH) : Option ((β ⊕ Nat) × mH) := some (.inr n, h)
def rV (Θ : mW) (h : mH) (ci q k : Nat) : Option Value := match gt Θ h q with
  | some (.inr (c, fs)) => if c = ci then fs[k]? else none
  | _ => none
def rI (Θ : mW) (h : mH) (ci q k : Nat) : Option Int32 := match rV Θ h ci q k with
  | some (.int v) => some v
  | _ => none
def rA (Θ : mW) (h : mH) (ci q k : Nat) : Option Nat := match rV Θ h ci q k with
  | some (.ref v) => some v
  | _ => none
def wF (Θ : mW) (h : mH) (ci q k : Nat) (v : Value) : Option mH := match gt Θ h q with
  | some (.inr (c, fs)) => if c = ci ∧ k < fs.length then some (pt Θ h q (oB ci (fs.set k v))) else none
  | _ => none
def aR (Θ : mW) (h : mH) (t q : Nat) (x : Int32) : Option Int32 := match gt Θ h q with
  | some (.inl (t', n, .inl f)) => if t' = t ∧ ¬ (x < 0 ∨ n ≤ x.toNatClampNeg) then some (f x.toNatClampNeg) else none
  | _ => none
def aW (Θ : mW) (h : mH) (t q : Nat) (x v : Int32) : Option mH := match gt Θ h q with
  | some (.inl (t', n, .inl f)) => if t' = t ∧ ¬ (x < 0 ∨ n ≤ x.toNatClampNeg) then some (pt Θ h q (aI t n (upd f x.toNatClampNeg v))) else none
  | _ => none
def aRL (Θ : mW) (h : mH) (q : Nat) (x : Int32) : Option Int64 := match gt Θ h q with
  | some (.inl (t', n, .inr (.inl f))) => if t' = 2 ∧ ¬ (x < 0 ∨ n ≤ x.toNatClampNeg) then some (f x.toNatClampNeg) else none
  | _ => none
def aWL (Θ : mW) (h : mH) (q : Nat) (x : Int32) (v : Int64) : Option mH := match gt Θ h q with
  | some (.inl (t', n, .inr (.inl f))) => if t' = 2 ∧ ¬ (x < 0 ∨ n ≤ x.toNatClampNeg) then some (pt Θ h q (aL n (vp_updL f x.toNatClampNeg v))) else none
  | _ => none
def aRD (Θ : mW) (h : mH) (q : Nat) (x : Int32) : Option UInt64 := match gt Θ h q with
  | some (.inl (t', n, .inr (.inr (.inr (.inl f))))) => if t' = 3 ∧ ¬ (x < 0 ∨ n ≤ x.toNatClampNeg) then some (f x.toNatClampNeg) else none
  | _ => none
def aWD (Θ : mW) (h : mH) (q : Nat) (x : Int32) (v : UInt64) : Option mH := match gt Θ h q with
  | some (.inl (t', n, .inr (.inr (.inr (.inl f))))) => if t' = 3 ∧ ¬ (x < 0 ∨ n ≤ x.toNatClampNeg) then some (pt Θ h q (aD n (vf_upd f x.toNatClampNeg v))) else none
  | _ => none
def aRQ (Θ : mW) (h : mH) (t q : Nat) (x : Int32) : Option Nat := match gt Θ h q with
  | some (.inl (t', n, .inr (.inr (.inr (.inr f))))) => if t' = t ∧ ¬ (x < 0 ∨ n ≤ x.toNatClampNeg) then f x.toNatClampNeg else none
  | _ => none
def aWQ (Θ : mW) (h : mH) (t ci q : Nat) (x : Int32) (v : Nat) : Option mH := match gt Θ h q, gt Θ h v with
  | some (.inl (t', n, .inr (.inr (.inr (.inr f))))), some (.inr (c, _)) => if (t' = t ∧ c = ci) ∧ ¬ (x < 0 ∨ n ≤ x.toNatClampNeg) then some (pt Θ h q (aQ t n (va_up f x.toNatClampNeg (some v)))) else none
  | _, _ => none
def aN (Θ : mW) (h : mH) (q : Nat) : Option Int32 := match gt Θ h q with
  | some (.inl (t, n, _)) => if t < 7 then some (Int32.ofNat n) else none
  | _ => none
def gO {ρ : Type} (Θ : mW) (h : mH) (ci q : Nat) (p : Option ρ) : Option ρ := match gt Θ h q with
  | some (.inr (c, _)) => if c = ci then p else none
  | _ => none
def al {ρ : Type} (Θ : mW) (h : mH) (e : mE) (F : Nat → mH → Option ρ) : Option ρ := F (mwB Θ + h.length) (h ++ [e])
def ala {ρ : Type} (Θ : mW) (h : mH) (b : Nat) (x : Int32) (e : Nat → mE) (F : Nat → mH → Option ρ) : Option ρ := if ¬ x < 0 ∧ x.toNatClampNeg * b ≤ 536870912 then al Θ h (e x.toNatClampNeg) F else none
/-- System.arraycopy between numbers -/
def cpI (Θ : mW) (h : mH) (t q0 : Nat) (sp : Int32) (q1 : Nat) (dp n : Int32) : Option mH := match gt Θ h q0, gt Θ h q1 with
  | some (.inl (t0, n0, .inl f)), some (.inl (t1, n1, .inl g)) => if (t0 = t ∧ t1 = t) ∧ (¬ sp < 0 ∧ ¬ dp < 0 ∧ ¬ n < 0) ∧ sp.toNatClampNeg + n.toNatClampNeg ≤ n0 ∧ dp.toNatClampNeg + n.toNatClampNeg ≤ n1 then some (pt Θ h q1 (aI t n1 (va_cpy f g sp.toNatClampNeg dp.toNatClampNeg n.toNatClampNeg))) else none
  | _, _ => none
def cpB (Θ : mW) (h : mH) (q0 : Nat) (sp : Int32) (q1 : Nat) (dp n : Int32) : Option mH := match gt Θ h q0 with
  | some (.inl (_, _, .inl f)) => if (List.range n.toNatClampNeg).all (fun i => fits .byte (.int (f (sp.toNatClampNeg + i)))) = true then cpI Θ h 4 q0 sp q1 dp n else none
  | _ => none
/-- the number of an old thing that a field holds -/
def rO (Θ : mW) (h : mH) (ci q k : Nat) : Option Nat := match rA Θ h ci q k with
  | some a => (List.range 12).find? (fun j => mwad Θ j = a)
  | none => none
def ush (x y : Int32) : Int32 := (x.toUInt32 >>> (y.toUInt32 &&& Int32.toUInt32 31)).toInt32
/-! old things -/
def oBn (j : Nat) : Option (Nat × (Nat → Nat)) := if j = 41 then some (100, fun i => 48 + i % 10) else if j = 42 then some (100, fun i => 48 + i / 10) else none
def oB8 (j : Nat) (x : Int32) : Option Int32 := bo (oBn j) (fun q => if ¬ (x < 0 ∨ q.1 ≤ x.toNatClampNeg) then some (nI (q.2 x.toNatClampNeg)) else none)
def oBl (j : Nat) : Option Int32 := bo (oBn j) (fun q => some (Int32.ofNat q.1))
/-- the script -/
def oXl (Θ : mW) : Option Int32 := some (Int32.ofNat (mwL Θ))
def oX (Θ : mW) (x : Int32) : Option Int32 := if ¬ (x < 0 ∨ mwL Θ ≤ x.toNatClampNeg) then some (mwxs Θ x.toNatClampNeg) else none
theorem oBn_in {Θ : mW} {j : Nat} : ∀ w, oBn j = some w → (j, .byte, w.1, fun i => .int (nI (w.2 i))) ∈ mOA Θ := by
  intro w hw
  unfold oBn at hw
  split at hw
  · rename_i hj
    cases hw
    subst hj
    exact List.mem_of_getElem? (i := 1) rfl
  · split at hw
    · rename_i hj
      cases hw
      subst hj
      exact List.mem_of_getElem? (i := 2) rfl
    · cases hw
/-! kinds of ends -/
def vI (v : Int32) : Option Value := some (.int v)
def vU (_ : Unit) : Option Value := none
def vA (v : Nat) : Option Value := some (.ref v)
def vN (v : Option Nat) : Option Value := some (va_rf v)
def vD (v : UInt64) : Option Value := some (.double v)
def vF (v : UInt32) : Option Value := some (.float v)
def tR {α : Type} (tv : α → Option Value) (r : α × mH) : mO × mH := (.inl (tv r.1), r.2)
def tX {α : Type} (tv : α → Option Value) (r : (α ⊕ Nat) × mH) : mO × mH := match r with
  | (.inl a, h) => (.inl (tv a), h)
  | (.inr n, h) => (.inr n, h)
/-- what is known of locals may be forgotten -/
def mWk : List (Option Value) → List (Option Value) → Prop
  | [], [] => True
  | none :: a, _ :: b => mWk a b
  | some v :: a, some w :: b => v = w ∧ mWk a b
  | _, _ => False
theorem mWk_len : ∀ {a b : List (Option Value)}, mWk a b → a.length = b.length
  | [], [], _ => rfl
  | none :: a, x :: b, h => by rw [List.length_cons, List.length_cons, mWk_len (a := a) (b := b) (by cases x <;> exact h)]
  | some v :: a, some w :: b, h => by rw [List.length_cons, List.length_cons, mWk_len (a := a) (b := b) h.2]
theorem mWk_at : ∀ {a b : List (Option Value)}, mWk a b → ∀ (i : Nat) (v : Value), a[i]? = some (some v) → b[i]? = some (some v)
  | [], [], _, i, v, h => by simp at h
  | none :: a, x :: b, h, 0, v, e => by simp at e
  | none :: a, x :: b, h, i + 1, v, e => by
    rw [List.getElem?_cons_succ] at e ⊢
    exact mWk_at (a := a) (b := b) (by cases x <;> exact h) i v e
  | some w :: a, some x :: b, h, 0, v, e => by
    rw [List.getElem?_cons_zero] at e ⊢
    cases e
    rw [h.1]
  | some w :: a, some x :: b, h, i + 1, v, e => by
    rw [List.getElem?_cons_succ] at e ⊢
    exact mWk_at h.2 i v e
section YR
variable {l : Launch} {Θ : mW} {d : Nat} {M : mM} {pc : Nat} {loc loc2 : List (Option Value)} {stk stk2 rest : List Value} {h : mH} {ρ : Type} {tr : ρ → mO × mH} {p : Option ρ}
def mY (l : Launch) (Θ : mW) (d : Nat) (M : mM) (pc : Nat) (loc : List (Option Value)) (stk : List Value) (h : mH) (tr : ρ → mO × mH) (p : Option ρ) : Prop := ∀ r, p = some r → mZ l Θ d M pc loc stk h (fun o h' => (o, h') = tr r)
def mMs (l : Launch) (Θ : mW) (d : Nat) (M : mM) (As : List Value) (h : mH) (tr : ρ → mO × mH) (p : Option ρ) : Prop := ∀ r, p = some r → mT l Θ d M As h (fun o h' => (o, h') = tr r)
def mK (l : Launch) (Θ : mW) (d : Nat) (M : mM) (pc : Nat) (loc : List (Option Value)) (stk rest : List Value) (h : mH) (tr : ρ → mO × mH) (p : Option ρ) : Prop := ∀ r, p = some r → mCall l Θ d M pc loc stk rest h (tr r).1 (tr r).2
def mHY (l : Launch) (Θ : mW) (d : Nat) (M : mM) (pc : Nat) (loc : List (Option Value)) (n : Nat) (h : mH) (tr : ρ → mO × mH) (p : Option ρ) : Prop := ∀ r, p = some r → mThr l Θ d M pc loc n h (fun o h' => (o, h') = tr r)
/-- what each method asks of the start -/
def HF (l : Launch) (Θ : mW) : Prop := l.flags = flags0 ∧ (mwsq Θ).category = 1
def mxI (x y : Int32) : Int32 := if x < y then y else x
def mnI (x y : Int32) : Int32 := if y < x then y else x
def abI (x : Int32) : Int32 := if 0 ≤ x then x else 0 - x
theorem y_mmax {i : Nat} {x y : Int32} (hd : decode (mMc M) pc = .ok (.invokestatic i, 3)) (hw : Cond.methodLink (mMy M).cls i Lib.Math.max.name ∈ gtbl) (hst : Cond.static Lib.Math.max.name ∈ gtbl) (hini : Cond.initialized "java/lang/Math" ∈ gtbl) (hco : Cond.code Lib.Math.max.name Lib.Math.max.code 2 (some .int) ∈ gtbl) (h8 : (stk.map fun v => v.category).sum ≤ 8) (hdj : 1 ≤ d) (k : mY l Θ d M (pc + 3) loc (.int (mxI x y) :: stk) h tr p) : mY l Θ d M pc loc (.int y :: .int x :: stk) h tr p := fun r hr =>
  mZ.heap (h2 := h) (loc2 := loc) (Nat.le_refl _) (Nat.le_refl _) (fun p e R s m args below meth c H locs cells slots Q ls C hR hL hS c1 c2 kk => by
    have hf := C.frames
    have hr := C.room
    rw [Nat.sub_self] at c1 c2
    exact va_mmax C.exec C.bytes (C.maxl.trans hL.1.symm) C.own (C.hts _ hw) (C.hts _ hst) (C.hts _ hini) (C.hts _ hco) (by omega) (by omega) (by omega) (by omega) hd (by have := kk H locs ls hR hL hS; rw [Nat.sub_self, Nat.sub_self] at this; exact this)) (k r hr)
theorem y_mmin {i : Nat} {x y : Int32} (hd : decode (mMc M) pc = .ok (.invokestatic i, 3)) (hw : Cond.methodLink (mMy M).cls i Lib.Math.min.name ∈ gtbl) (hst : Cond.static Lib.Math.min.name ∈ gtbl) (hini : Cond.initialized "java/lang/Math" ∈ gtbl) (hco : Cond.code Lib.Math.min.name Lib.Math.min.code 2 (some .int) ∈ gtbl) (h8 : (stk.map fun v => v.category).sum ≤ 8) (hdj : 1 ≤ d) (k : mY l Θ d M (pc + 3) loc (.int (mnI x y) :: stk) h tr p) : mY l Θ d M pc loc (.int y :: .int x :: stk) h tr p := fun r hr =>
  mZ.heap (h2 := h) (loc2 := loc) (Nat.le_refl _) (Nat.le_refl _) (fun p e R s m args below meth c H locs cells slots Q ls C hR hL hS c1 c2 kk => by
    have hf := C.frames
    have hr := C.room
    rw [Nat.sub_self] at c1 c2
    exact va_mmin C.exec C.bytes (C.maxl.trans hL.1.symm) C.own (C.hts _ hw) (C.hts _ hst) (C.hts _ hini) (C.hts _ hco) (by omega) (by omega) (by omega) (by omega) hd (by have := kk H locs ls hR hL hS; rw [Nat.sub_self, Nat.sub_self] at this; exact this)) (k r hr)
theorem y_mabs {i : Nat} {x : Int32} (hd : decode (mMc M) pc = .ok (.invokestatic i, 3)) (hw : Cond.methodLink (mMy M).cls i Lib.Math.abs.name ∈ gtbl) (hst : Cond.static Lib.Math.abs.name ∈ gtbl) (hini : Cond.initialized "java/lang/Math" ∈ gtbl) (hco : Cond.code Lib.Math.abs.name Lib.Math.abs.code 1 (some .int) ∈ gtbl) (h8 : (stk.map fun v => v.category).sum ≤ 8) (hdj : 1 ≤ d) (k : mY l Θ d M (pc + 3) loc (.int (abI x) :: stk) h tr p) : mY l Θ d M pc loc (.int x :: stk) h tr p := fun r hr =>
  mZ.heap (h2 := h) (loc2 := loc) (Nat.le_refl _) (Nat.le_refl _) (fun p e R s m args below meth c H locs cells slots Q ls C hR hL hS c1 c2 kk => by
    have hf := C.frames
    have hr := C.room
    rw [Nat.sub_self] at c1 c2
    exact va_mabs C.exec C.bytes (C.maxl.trans hL.1.symm) C.own (C.hts _ hw) (C.hts _ hst) (C.hts _ hini) (C.hts _ hco) (by omega) (by omega) (by omega) (by omega) hd (by have := kk H locs ls hR hL hS; rw [Nat.sub_self, Nat.sub_self] at this; exact this)) (k r hr)
theorem mMs.of {as : List Value} (hfl : HF l Θ) (hy : plainName (mMy M).cls = true) (hc : as.all (fun v => v.category == 1) = true) (hn : as.length ≤ mMl M) (hl : mLoc0 as (mMl M) = loc) (k : mY l Θ d M 0 loc [] h tr p) : mMs l Θ d M as h tr p := fun r hr => mT.of hfl.1 hy hc hn (by rw [hl]; exact k r hr)
theorem y_none : mY l Θ d M pc loc stk h tr none := fun r hr => by cases hr
theorem y_wk (hw : mWk loc2 loc) (k : mY l Θ d M pc loc2 stk h tr p) : mY l Θ d M pc loc stk h tr p := fun r hr => mZ.pure (loc2 := loc2) (fun p e R s m args below meth c H locs cells slots Q ls C hL hS kk => kk ls ⟨hL.1, hL.2.1, by rw [mWk_len hw]; exact hL.2.2.1, fun i v hi => hL.2.2.2 i v (mWk_at hw i v hi)⟩) (k r hr)
theorem y_jn {α : Type} {C : α → Prop} {f : α} {g : α → Option ρ} (h1 : C f) (h2 : ∀ j, C j → mY l Θ d M pc loc stk h tr (g j)) : mY l Θ d M pc loc stk h tr (jn f g) := h2 f h1
theorem y_ite {c : Prop} [Decidable c] {p1 p2 : Option ρ} (k1 : c → mY l Θ d M pc loc stk h tr p1) (k2 : ¬ c → mY l Θ d M pc loc stk h tr p2) : mY l Θ d M pc loc stk h tr (if c then p1 else p2) := fun r hr => by
  by_cases hc : c
  · rw [if_pos hc] at hr; exact k1 hc r hr
  · rw [if_neg hc] at hr; exact k2 hc r hr
theorem y_gd {c : Prop} [Decidable c] {p1 : Option ρ} (k1 : c → mY l Θ d M pc loc stk h tr p1) : mY l Θ d M pc loc stk h tr (if c then p1 else none) := y_ite k1 (fun _ => y_none)

theorem y_iconst {n : Int} {v : Int32} (hd : decode (mMc M) pc = .ok (.iconst n, 1)) (hv : Int32.ofInt n = v) (k : mY l Θ d M (pc + 1) loc (.int v :: stk) h tr p) : mY l Θ d M pc loc stk h tr p := fun r hr => z_iconst hd hv (k r hr)
theorem y_bipush {n : Int} {v : Int32} (hd : decode (mMc M) pc = .ok (.bipush n, 2)) (hv : (Int8.ofInt n).toInt32 = v) (k : mY l Θ d M (pc + 2) loc (.int v :: stk) h tr p) : mY l Θ d M pc loc stk h tr p := fun r hr => z_bipush hd hv (k r hr)
theorem y_sipush {n : Int} {v : Int32} (hd : decode (mMc M) pc = .ok (.sipush n, 3)) (hv : (Int16.ofInt n).toInt32 = v) (k : mY l Θ d M (pc + 3) loc (.int v :: stk) h tr p) : mY l Θ d M pc loc stk h tr p := fun r hr => z_sipush hd hv (k r hr)
theorem y_lconst {n : Fin 2} {v : Int64} (hd : decode (mMc M) pc = .ok (.lconst n, 1)) (hv : Int64.ofNat (n : Nat) = v) (k : mY l Θ d M (pc + 1) loc (.long v :: stk) h tr p) : mY l Θ d M pc loc stk h tr p := fun r hr => z_lconst hd hv (k r hr)
theorem y_dconst0  (hd : decode (mMc M) pc = .ok (.dconst 0, 1)) (k : mY l Θ d M (pc + 1) loc (.double 0 :: stk) h tr p) : mY l Θ d M pc loc stk h tr p := fun r hr => z_dconst0 hd (k r hr)
theorem y_null  (hd : decode (mMc M) pc = .ok (.aconst_null, 1)) (k : mY l Θ d M (pc + 1) loc (.null :: stk) h tr p) : mY l Θ d M pc loc stk h tr p := fun r hr => z_null hd (k r hr)
theorem y_ldc {i : Nat} {v : Int32} (hd : decode (mMc M) pc = .ok (.ldc i, 2)) (hw : Cond.constant (mMy M).cls i v ∈ gtbl) (k : mY l Θ d M (pc + 2) loc (.int v :: stk) h tr p) : mY l Θ d M pc loc stk h tr p := fun r hr => z_ldc hd hw (k r hr)
theorem y_ldcw {i : Nat} {v : Int32} (hd : decode (mMc M) pc = .ok (.ldc_w i, 3)) (hw : Cond.constant (mMy M).cls i v ∈ gtbl) (k : mY l Θ d M (pc + 3) loc (.int v :: stk) h tr p) : mY l Θ d M pc loc stk h tr p := fun r hr => z_ldcw hd hw (k r hr)
theorem y_ldcf {i : Nat} {v : UInt32} (hd : decode (mMc M) pc = .ok (.ldc i, 2)) (hw : Cond.constantFloat (mMy M).cls i v ∈ gtbl) (k : mY l Θ d M (pc + 2) loc (.float v :: stk) h tr p) : mY l Θ d M pc loc stk h tr p := fun r hr => z_ldcf hd hw (k r hr)
theorem y_ldcS {i n : Nat} {tx : String} (hd : decode (mMc M) pc = .ok (.ldc i, 2)) (hw : (n, (mMy M).cls, i, tx) ∈ mSR) (k : mY l Θ d M (pc + 2) loc (.ref (mwad Θ n) :: stk) h tr p) : mY l Θ d M pc loc stk h tr p := fun r hr => z_ldcS hd hw (k r hr)
theorem y_iload {i : Nat} {x : Int32} (hd : decode (mMc M) pc = .ok (.iload i, 2)) (hl : loc[i]? = some (some (.int x))) (k : mY l Θ d M (pc + 2) loc (.int x :: stk) h tr p) : mY l Θ d M pc loc stk h tr p := fun r hr => z_iload hd hl (k r hr)
theorem y_iload_n {i : Fin 4} {x : Int32} (hd : decode (mMc M) pc = .ok (.iload_n i, 1)) (hl : loc[(i : Nat)]? = some (some (.int x))) (k : mY l Θ d M (pc + 1) loc (.int x :: stk) h tr p) : mY l Θ d M pc loc stk h tr p := fun r hr => z_iload_n hd hl (k r hr)
theorem y_aload {i : Nat} {x : Nat} (hd : decode (mMc M) pc = .ok (.aload i, 2)) (hl : loc[i]? = some (some (.ref x))) (k : mY l Θ d M (pc + 2) loc (.ref x :: stk) h tr p) : mY l Θ d M pc loc stk h tr p := fun r hr => z_aload hd hl (k r hr)
theorem y_aload_n {i : Fin 4} {x : Nat} (hd : decode (mMc M) pc = .ok (.aload_n i, 1)) (hl : loc[(i : Nat)]? = some (some (.ref x))) (k : mY l Θ d M (pc + 1) loc (.ref x :: stk) h tr p) : mY l Θ d M pc loc stk h tr p := fun r hr => z_aload_n hd hl (k r hr)
theorem y_dload {i : Nat} {x : UInt64} (hd : decode (mMc M) pc = .ok (.dload i, 2)) (hl : loc[i]? = some (some (.double x))) (k : mY l Θ d M (pc + 2) loc (.double x :: stk) h tr p) : mY l Θ d M pc loc stk h tr p := fun r hr => z_dload hd hl (k r hr)
theorem y_dload_n {i : Fin 4} {x : UInt64} (hd : decode (mMc M) pc = .ok (.dload_n i, 1)) (hl : loc[(i : Nat)]? = some (some (.double x))) (k : mY l Θ d M (pc + 1) loc (.double x :: stk) h tr p) : mY l Θ d M pc loc stk h tr p := fun r hr => z_dload_n hd hl (k r hr)
theorem y_aloadN {i : Nat} (hd : decode (mMc M) pc = .ok (.aload i, 2)) (hl : loc[i]? = some (some .null)) (k : mY l Θ d M (pc + 2) loc (.null :: stk) h tr p) : mY l Θ d M pc loc stk h tr p := fun r hr => z_aloadN hd hl (k r hr)
theorem y_aload_nN {i : Fin 4} (hd : decode (mMc M) pc = .ok (.aload_n i, 1)) (hl : loc[(i : Nat)]? = some (some .null)) (k : mY l Θ d M (pc + 1) loc (.null :: stk) h tr p) : mY l Θ d M pc loc stk h tr p := fun r hr => z_aload_nN hd hl (k r hr)
theorem y_istore {i : Nat} {x : Int32} (hd : decode (mMc M) pc = .ok (.istore i, 2)) (hi : i < mMl M) (hk : mSt1 loc i = true) (hl : loc.set i (some (.int x)) = loc2) (k : mY l Θ d M (pc + 2) loc2 stk h tr p) : mY l Θ d M pc loc (.int x :: stk) h tr p := fun r hr => z_istore hd hi hk hl (k r hr)
theorem y_istore_n {i : Fin 4} {x : Int32} (hd : decode (mMc M) pc = .ok (.istore_n i, 1)) (hi : (i : Nat) < mMl M) (hk : mSt1 loc i = true) (hl : loc.set (i : Nat) (some (.int x)) = loc2) (k : mY l Θ d M (pc + 1) loc2 stk h tr p) : mY l Θ d M pc loc (.int x :: stk) h tr p := fun r hr => z_istore_n hd hi hk hl (k r hr)
theorem y_astore {i : Nat} {x : Nat} (hd : decode (mMc M) pc = .ok (.astore i, 2)) (hi : i < mMl M) (hk : mSt1 loc i = true) (hl : loc.set i (some (.ref x)) = loc2) (k : mY l Θ d M (pc + 2) loc2 stk h tr p) : mY l Θ d M pc loc (.ref x :: stk) h tr p := fun r hr => z_astore hd hi hk hl (k r hr)
theorem y_astore_n {i : Fin 4} {x : Nat} (hd : decode (mMc M) pc = .ok (.astore_n i, 1)) (hi : (i : Nat) < mMl M) (hk : mSt1 loc i = true) (hl : loc.set (i : Nat) (some (.ref x)) = loc2) (k : mY l Θ d M (pc + 1) loc2 stk h tr p) : mY l Θ d M pc loc (.ref x :: stk) h tr p := fun r hr => z_astore_n hd hi hk hl (k r hr)
theorem y_astoreN {i : Nat} (hd : decode (mMc M) pc = .ok (.astore i, 2)) (hi : i < mMl M) (hk : mSt1 loc i = true) (hl : loc.set i (some .null) = loc2) (k : mY l Θ d M (pc + 2) loc2 stk h tr p) : mY l Θ d M pc loc (.null :: stk) h tr p := fun r hr => z_astoreN hd hi hk hl (k r hr)
theorem y_astore_nN {i : Fin 4} (hd : decode (mMc M) pc = .ok (.astore_n i, 1)) (hi : (i : Nat) < mMl M) (hk : mSt1 loc i = true) (hl : loc.set (i : Nat) (some .null) = loc2) (k : mY l Θ d M (pc + 1) loc2 stk h tr p) : mY l Θ d M pc loc (.null :: stk) h tr p := fun r hr => z_astore_nN hd hi hk hl (k r hr)
theorem y_dstore {i : Nat} {x : UInt64} (hd : decode (mMc M) pc = .ok (.dstore i, 2)) (hi : i + 1 < mMl M) (hk : mSt1 loc i = true) (hl : (loc.set i (some (.double x))).set (i + 1) none = loc2) (k : mY l Θ d M (pc + 2) loc2 stk h tr p) : mY l Θ d M pc loc (.double x :: stk) h tr p := fun r hr => z_dstore hd hi hk hl (k r hr)
theorem y_iinc {i : Nat} {n : Int} {x v : Int32} (hd : decode (mMc M) pc = .ok (.iinc i n, 3)) (hx : loc[i]? = some (some (.int x))) (hv : x + Int32.ofInt n = v) (hi : i < mMl M) (hk : mSt1 loc i = true) (hl : loc.set i (some (.int v)) = loc2) (k : mY l Θ d M (pc + 3) loc2 stk h tr p) : mY l Θ d M pc loc stk h tr p := fun r hr => z_iinc hd hx hv hi hk hl (k r hr)
theorem y_iadd {x y v : Int32} (hd : decode (mMc M) pc = .ok (.iadd, 1)) (hv : x + y = v) (k : mY l Θ d M (pc + 1) loc (.int v :: stk) h tr p) : mY l Θ d M pc loc (.int y :: .int x :: stk) h tr p := fun r hr => z_iadd hd hv (k r hr)
theorem y_isub {x y v : Int32} (hd : decode (mMc M) pc = .ok (.isub, 1)) (hv : x - y = v) (k : mY l Θ d M (pc + 1) loc (.int v :: stk) h tr p) : mY l Θ d M pc loc (.int y :: .int x :: stk) h tr p := fun r hr => z_isub hd hv (k r hr)
theorem y_imul {x y v : Int32} (hd : decode (mMc M) pc = .ok (.imul, 1)) (hv : x * y = v) (k : mY l Θ d M (pc + 1) loc (.int v :: stk) h tr p) : mY l Θ d M pc loc (.int y :: .int x :: stk) h tr p := fun r hr => z_imul hd hv (k r hr)
theorem y_iand {x y v : Int32} (hd : decode (mMc M) pc = .ok (.iand, 1)) (hv : x &&& y = v) (k : mY l Θ d M (pc + 1) loc (.int v :: stk) h tr p) : mY l Θ d M pc loc (.int y :: .int x :: stk) h tr p := fun r hr => z_iand hd hv (k r hr)
theorem y_ior {x y v : Int32} (hd : decode (mMc M) pc = .ok (.ior, 1)) (hv : x ||| y = v) (k : mY l Θ d M (pc + 1) loc (.int v :: stk) h tr p) : mY l Θ d M pc loc (.int y :: .int x :: stk) h tr p := fun r hr => z_ior hd hv (k r hr)
theorem y_ixor {x y v : Int32} (hd : decode (mMc M) pc = .ok (.ixor, 1)) (hv : x ^^^ y = v) (k : mY l Θ d M (pc + 1) loc (.int v :: stk) h tr p) : mY l Θ d M pc loc (.int y :: .int x :: stk) h tr p := fun r hr => z_ixor hd hv (k r hr)
theorem y_ishl {x y v : Int32} (hd : decode (mMc M) pc = .ok (.ishl, 1)) (hv : x <<< (y &&& 31) = v) (k : mY l Θ d M (pc + 1) loc (.int v :: stk) h tr p) : mY l Θ d M pc loc (.int y :: .int x :: stk) h tr p := fun r hr => z_ishl hd hv (k r hr)
theorem y_ishr {x y v : Int32} (hd : decode (mMc M) pc = .ok (.ishr, 1)) (hv : x >>> (y &&& 31) = v) (k : mY l Θ d M (pc + 1) loc (.int v :: stk) h tr p) : mY l Θ d M pc loc (.int y :: .int x :: stk) h tr p := fun r hr => z_ishr hd hv (k r hr)
theorem y_iushr {x y v : Int32} (hd : decode (mMc M) pc = .ok (.iushr, 1)) (hv : (x.toUInt32 >>> (y.toUInt32 &&& Int32.toUInt32 31)).toInt32 = v) (k : mY l Θ d M (pc + 1) loc (.int v :: stk) h tr p) : mY l Θ d M pc loc (.int y :: .int x :: stk) h tr p := fun r hr => z_iushr hd hv (k r hr)
theorem y_idiv {x y v : Int32} (hd : decode (mMc M) pc = .ok (.idiv, 1)) (hn : ¬ y = 0) (hv : x / y = v) (k : mY l Θ d M (pc + 1) loc (.int v :: stk) h tr p) : mY l Θ d M pc loc (.int y :: .int x :: stk) h tr p := fun r hr => z_idiv hd hn hv (k r hr)
theorem y_irem {x y v : Int32} (hd : decode (mMc M) pc = .ok (.irem, 1)) (hn : ¬ y = 0) (hv : x - x / y * y = v) (k : mY l Θ d M (pc + 1) loc (.int v :: stk) h tr p) : mY l Θ d M pc loc (.int y :: .int x :: stk) h tr p := fun r hr => z_irem hd hn hv (k r hr)
theorem y_ineg {x v : Int32} (hd : decode (mMc M) pc = .ok (.ineg, 1)) (hv : -x = v) (k : mY l Θ d M (pc + 1) loc (.int v :: stk) h tr p) : mY l Θ d M pc loc (.int x :: stk) h tr p := fun r hr => z_ineg hd hv (k r hr)
theorem y_i2l {x : Int32} {v : Int64} (hd : decode (mMc M) pc = .ok (.i2l, 1)) (hv : x.toInt64 = v) (k : mY l Θ d M (pc + 1) loc (.long v :: stk) h tr p) : mY l Θ d M pc loc (.int x :: stk) h tr p := fun r hr => z_i2l hd hv (k r hr)
theorem y_i2b {x v : Int32} (hd : decode (mMc M) pc = .ok (.i2b, 1)) (hv : x.toInt8.toInt32 = v) (k : mY l Θ d M (pc + 1) loc (.int v :: stk) h tr p) : mY l Θ d M pc loc (.int x :: stk) h tr p := fun r hr => z_i2b hd hv (k r hr)
theorem y_i2c {x v : Int32} (hd : decode (mMc M) pc = .ok (.i2c, 1)) (hv : (x.toUInt32 % 65536).toInt32 = v) (k : mY l Θ d M (pc + 1) loc (.int v :: stk) h tr p) : mY l Θ d M pc loc (.int x :: stk) h tr p := fun r hr => z_i2c hd hv (k r hr)
theorem y_i2d {x : Int32} (hd : decode (mMc M) pc = .ok (.i2d, 1)) (k : mY l Θ d M (pc + 1) loc (.double (FP.i2d x) :: stk) h tr p) : mY l Θ d M pc loc (.int x :: stk) h tr p := fun r hr => z_i2d hd (k r hr)
theorem y_i2f {x : Int32} (hd : decode (mMc M) pc = .ok (.i2f, 1)) (k : mY l Θ d M (pc + 1) loc (.float (FP.i2f x) :: stk) h tr p) : mY l Θ d M pc loc (.int x :: stk) h tr p := fun r hr => z_i2f hd (k r hr)
theorem y_f2d {x : UInt32} (hd : decode (mMc M) pc = .ok (.f2d, 1)) (hn : vf_n64 (FP.f2d x)) (k : mY l Θ d M (pc + 1) loc (.double (FP.f2d x) :: stk) h tr p) : mY l Θ d M pc loc (.float x :: stk) h tr p := fun r hr => z_f2d hd hn (k r hr)
theorem y_ddiv {x y : UInt64} (hd : decode (mMc M) pc = .ok (.ddiv, 1)) (hn : vf_n64 (FP.ddiv x y)) (k : mY l Θ d M (pc + 1) loc (.double (FP.ddiv x y) :: stk) h tr p) : mY l Θ d M pc loc (.double y :: .double x :: stk) h tr p := fun r hr => z_ddiv hd hn (k r hr)
theorem y_fdiv {x y : UInt32} (hd : decode (mMc M) pc = .ok (.fdiv, 1)) (hn : vf_n32 (FP.fdiv x y)) (k : mY l Θ d M (pc + 1) loc (.float (FP.fdiv x y) :: stk) h tr p) : mY l Θ d M pc loc (.float y :: .float x :: stk) h tr p := fun r hr => z_fdiv hd hn (k r hr)
theorem y_lcmp {x y : Int64} {v : Int32} (hd : decode (mMc M) pc = .ok (.lcmp, 1)) (hv : lg_cmp x y = v) (k : mY l Θ d M (pc + 1) loc (.int v :: stk) h tr p) : mY l Θ d M pc loc (.long y :: .long x :: stk) h tr p := fun r hr => z_lcmp hd hv (k r hr)
theorem y_dcmp {x y : UInt64} {op : CmpOp} {v : Int32} (hd : decode (mMc M) pc = .ok (.dcmp op, 1)) (hv : Op.cmpValue (FP.dcmp x y) op = v) (k : mY l Θ d M (pc + 1) loc (.int v :: stk) h tr p) : mY l Θ d M pc loc (.double y :: .double x :: stk) h tr p := fun r hr => z_dcmp hd hv (k r hr)
theorem y_dup {v : Value} (hd : decode (mMc M) pc = .ok (.dup, 1)) (hv : v.category = 1) (k : mY l Θ d M (pc + 1) loc (v :: v :: stk) h tr p) : mY l Θ d M pc loc (v :: stk) h tr p := fun r hr => z_dup hd hv (k r hr)
theorem y_dup_x1 {v w : Value} (hd : decode (mMc M) pc = .ok (.dup_x1, 1)) (hv : v.category = 1) (hw : w.category = 1) (k : mY l Θ d M (pc + 1) loc (v :: w :: v :: stk) h tr p) : mY l Θ d M pc loc (v :: w :: stk) h tr p := fun r hr => z_dup_x1 hd hv hw (k r hr)
theorem y_dup2 {v w : Value} (hd : decode (mMc M) pc = .ok (.dup2, 1)) (hv : v.category = 1) (hw : w.category = 1) (k : mY l Θ d M (pc + 1) loc (v :: w :: v :: w :: stk) h tr p) : mY l Θ d M pc loc (v :: w :: stk) h tr p := fun r hr => z_dup2 hd hv hw (k r hr)
theorem y_pop {v : Value} (hd : decode (mMc M) pc = .ok (.pop, 1)) (hv : v.category = 1) (k : mY l Θ d M (pc + 1) loc stk h tr p) : mY l Θ d M pc loc (v :: stk) h tr p := fun r hr => z_pop hd hv (k r hr)
theorem y_goto {off : Int} {tgt : Nat} (hd : decode (mMc M) pc = .ok (.goto off, 3)) (ht : (pc : Int) + off = (tgt : Int)) (k : mY l Θ d M (tgt) loc stk h tr p) : mY l Θ d M pc loc stk h tr p := fun r hr => z_goto hd ht (k r hr)
theorem y_icmp_eq {x y : Int32} {off : Int} {tgt : Nat} (hd : decode (mMc M) pc = .ok (.if_icmp .eq off, 3)) (ht : (pc : Int) + off = (tgt : Int)) {p1 p2 : Option ρ} (kt : mY l Θ d M (tgt) loc stk h tr p1) (kf : mY l Θ d M (pc + 3) loc stk h tr p2) : mY l Θ d M pc loc (.int y :: .int x :: stk) h tr (if x = y then p1 else p2) := fun r hr => z_icmp_eq hd ht (fun c => kt r (by rw [if_pos c] at hr; exact hr)) (fun c => kf r (by rw [if_neg c] at hr; exact hr))
theorem y_if_eq {x : Int32} {off : Int} {tgt : Nat} (hd : decode (mMc M) pc = .ok (.ifCond .eq off, 3)) (ht : (pc : Int) + off = (tgt : Int)) {p1 p2 : Option ρ} (kt : mY l Θ d M (tgt) loc stk h tr p1) (kf : mY l Θ d M (pc + 3) loc stk h tr p2) : mY l Θ d M pc loc (.int x :: stk) h tr (if x = 0 then p1 else p2) := fun r hr => z_if_eq hd ht (fun c => kt r (by rw [if_pos c] at hr; exact hr)) (fun c => kf r (by rw [if_neg c] at hr; exact hr))
theorem y_icmp_ne {x y : Int32} {off : Int} {tgt : Nat} (hd : decode (mMc M) pc = .ok (.if_icmp .ne off, 3)) (ht : (pc : Int) + off = (tgt : Int)) {p1 p2 : Option ρ} (kt : mY l Θ d M (tgt) loc stk h tr p2) (kf : mY l Θ d M (pc + 3) loc stk h tr p1) : mY l Θ d M pc loc (.int y :: .int x :: stk) h tr (if x = y then p1 else p2) := fun r hr => z_icmp_ne hd ht (fun c => kt r (by rw [if_neg c] at hr; exact hr)) (fun c => kf r (by rw [if_pos c] at hr; exact hr))
theorem y_if_ne {x : Int32} {off : Int} {tgt : Nat} (hd : decode (mMc M) pc = .ok (.ifCond .ne off, 3)) (ht : (pc : Int) + off = (tgt : Int)) {p1 p2 : Option ρ} (kt : mY l Θ d M (tgt) loc stk h tr p2) (kf : mY l Θ d M (pc + 3) loc stk h tr p1) : mY l Θ d M pc loc (.int x :: stk) h tr (if x = 0 then p1 else p2) := fun r hr => z_if_ne hd ht (fun c => kt r (by rw [if_neg c] at hr; exact hr)) (fun c => kf r (by rw [if_pos c] at hr; exact hr))
theorem y_icmp_lt {x y : Int32} {off : Int} {tgt : Nat} (hd : decode (mMc M) pc = .ok (.if_icmp .lt off, 3)) (ht : (pc : Int) + off = (tgt : Int)) {p1 p2 : Option ρ} (kt : mY l Θ d M (tgt) loc stk h tr p1) (kf : mY l Θ d M (pc + 3) loc stk h tr p2) : mY l Θ d M pc loc (.int y :: .int x :: stk) h tr (if x < y then p1 else p2) := fun r hr => z_icmp_lt hd ht (fun c => kt r (by rw [if_pos c] at hr; exact hr)) (fun c => kf r (by rw [if_neg c] at hr; exact hr))
theorem y_if_lt {x : Int32} {off : Int} {tgt : Nat} (hd : decode (mMc M) pc = .ok (.ifCond .lt off, 3)) (ht : (pc : Int) + off = (tgt : Int)) {p1 p2 : Option ρ} (kt : mY l Θ d M (tgt) loc stk h tr p1) (kf : mY l Θ d M (pc + 3) loc stk h tr p2) : mY l Θ d M pc loc (.int x :: stk) h tr (if x < 0 then p1 else p2) := fun r hr => z_if_lt hd ht (fun c => kt r (by rw [if_pos c] at hr; exact hr)) (fun c => kf r (by rw [if_neg c] at hr; exact hr))
theorem y_icmp_ge {x y : Int32} {off : Int} {tgt : Nat} (hd : decode (mMc M) pc = .ok (.if_icmp .ge off, 3)) (ht : (pc : Int) + off = (tgt : Int)) {p1 p2 : Option ρ} (kt : mY l Θ d M (tgt) loc stk h tr p1) (kf : mY l Θ d M (pc + 3) loc stk h tr p2) : mY l Θ d M pc loc (.int y :: .int x :: stk) h tr (if y ≤ x then p1 else p2) := fun r hr => z_icmp_ge hd ht (fun c => kt r (by rw [if_pos c] at hr; exact hr)) (fun c => kf r (by rw [if_neg c] at hr; exact hr))
theorem y_if_ge {x : Int32} {off : Int} {tgt : Nat} (hd : decode (mMc M) pc = .ok (.ifCond .ge off, 3)) (ht : (pc : Int) + off = (tgt : Int)) {p1 p2 : Option ρ} (kt : mY l Θ d M (tgt) loc stk h tr p1) (kf : mY l Θ d M (pc + 3) loc stk h tr p2) : mY l Θ d M pc loc (.int x :: stk) h tr (if 0 ≤ x then p1 else p2) := fun r hr => z_if_ge hd ht (fun c => kt r (by rw [if_pos c] at hr; exact hr)) (fun c => kf r (by rw [if_neg c] at hr; exact hr))
theorem y_icmp_gt {x y : Int32} {off : Int} {tgt : Nat} (hd : decode (mMc M) pc = .ok (.if_icmp .gt off, 3)) (ht : (pc : Int) + off = (tgt : Int)) {p1 p2 : Option ρ} (kt : mY l Θ d M (tgt) loc stk h tr p1) (kf : mY l Θ d M (pc + 3) loc stk h tr p2) : mY l Θ d M pc loc (.int y :: .int x :: stk) h tr (if y < x then p1 else p2) := fun r hr => z_icmp_gt hd ht (fun c => kt r (by rw [if_pos c] at hr; exact hr)) (fun c => kf r (by rw [if_neg c] at hr; exact hr))
theorem y_if_gt {x : Int32} {off : Int} {tgt : Nat} (hd : decode (mMc M) pc = .ok (.ifCond .gt off, 3)) (ht : (pc : Int) + off = (tgt : Int)) {p1 p2 : Option ρ} (kt : mY l Θ d M (tgt) loc stk h tr p1) (kf : mY l Θ d M (pc + 3) loc stk h tr p2) : mY l Θ d M pc loc (.int x :: stk) h tr (if 0 < x then p1 else p2) := fun r hr => z_if_gt hd ht (fun c => kt r (by rw [if_pos c] at hr; exact hr)) (fun c => kf r (by rw [if_neg c] at hr; exact hr))
theorem y_icmp_le {x y : Int32} {off : Int} {tgt : Nat} (hd : decode (mMc M) pc = .ok (.if_icmp .le off, 3)) (ht : (pc : Int) + off = (tgt : Int)) {p1 p2 : Option ρ} (kt : mY l Θ d M (tgt) loc stk h tr p1) (kf : mY l Θ d M (pc + 3) loc stk h tr p2) : mY l Θ d M pc loc (.int y :: .int x :: stk) h tr (if x ≤ y then p1 else p2) := fun r hr => z_icmp_le hd ht (fun c => kt r (by rw [if_pos c] at hr; exact hr)) (fun c => kf r (by rw [if_neg c] at hr; exact hr))
theorem y_if_le {x : Int32} {off : Int} {tgt : Nat} (hd : decode (mMc M) pc = .ok (.ifCond .le off, 3)) (ht : (pc : Int) + off = (tgt : Int)) {p1 p2 : Option ρ} (kt : mY l Θ d M (tgt) loc stk h tr p1) (kf : mY l Θ d M (pc + 3) loc stk h tr p2) : mY l Θ d M pc loc (.int x :: stk) h tr (if x ≤ 0 then p1 else p2) := fun r hr => z_if_le hd ht (fun c => kt r (by rw [if_pos c] at hr; exact hr)) (fun c => kf r (by rw [if_neg c] at hr; exact hr))
theorem y_ifnonnull {off : Int} {tgt x : Nat} (hd : decode (mMc M) pc = .ok (.ifnonnull off, 3)) (ht : (pc : Int) + off = (tgt : Int)) (k : mY l Θ d M (tgt) loc stk h tr p) : mY l Θ d M pc loc (.ref x :: stk) h tr p := fun r hr => z_ifnonnull hd ht (k r hr)
theorem y_ifnull {off : Int} {x : Nat} (hd : decode (mMc M) pc = .ok (.ifnull off, 3)) (k : mY l Θ d M (pc + 3) loc stk h tr p) : mY l Θ d M pc loc (.ref x :: stk) h tr p := fun r hr => z_ifnull hd (k r hr)
theorem y_ifnullN {off : Int} {tgt : Nat} (hd : decode (mMc M) pc = .ok (.ifnull off, 3)) (ht : (pc : Int) + off = (tgt : Int)) (k : mY l Θ d M (tgt) loc stk h tr p) : mY l Θ d M pc loc (.null :: stk) h tr p := fun r hr => z_ifnullN hd ht (k r hr)
theorem y_ifnonnullN {off : Int} (hd : decode (mMc M) pc = .ok (.ifnonnull off, 3)) (k : mY l Θ d M (pc + 3) loc stk h tr p) : mY l Θ d M pc loc (.null :: stk) h tr p := fun r hr => z_ifnonnullN hd (k r hr)
theorem y_acmp_ne {x y : Nat} {off : Int} {tgt : Nat} (hd : decode (mMc M) pc = .ok (.if_acmp .ne off, 3)) (ht : (pc : Int) + off = (tgt : Int)) {p1 p2 : Option ρ} (kt : mY l Θ d M (tgt) loc stk h tr p2) (kf : mY l Θ d M (pc + 3) loc stk h tr p1) : mY l Θ d M pc loc (.ref y :: .ref x :: stk) h tr (if x = y then p1 else p2) := fun r hr => z_acmp_ne hd ht (fun c => kt r (by rw [if_neg c] at hr; exact hr)) (fun c => kf r (by rw [if_pos c] at hr; exact hr))
theorem y_tableOut {dflt lo hi : Int} {offs : Array Int} {len tgt : Nat} {x : Int32} (hd : decode (mMc M) pc = .ok (.tableswitch dflt lo hi offs, len)) (hx : x.toInt < lo ∨ hi < x.toInt) (ht : (pc : Int) + dflt = (tgt : Int)) (k : mY l Θ d M (tgt) loc stk h tr p) : mY l Θ d M pc loc (.int x :: stk) h tr p := fun r hr => z_tableOut hd hx ht (k r hr)
theorem y_tableIn {dflt lo hi off : Int} {offs : Array Int} {len tgt : Nat} {x : Int32} (hd : decode (mMc M) pc = .ok (.tableswitch dflt lo hi offs, len)) (h1 : ¬ x.toInt < lo) (h2 : ¬ hi < x.toInt) (ho : offs[(x.toInt - lo).toNat]? = some off) (ht : (pc : Int) + off = (tgt : Int)) (k : mY l Θ d M (tgt) loc stk h tr p) : mY l Θ d M pc loc (.int x :: stk) h tr p := fun r hr => z_tableIn hd h1 h2 ho ht (k r hr)
theorem y_getstatic {i : Nat} {C0 n0 d0 : String} {v : Value} (hd : decode (mMc M) pc = .ok (.getstatic i, 3)) (hw : Cond.fieldLink (mMy M).cls i C0 n0 d0 ∈ gtbl) (hq : (C0, n0, d0, v) ∈ mSt Θ) (k : mY l Θ d M (pc + 3) loc (v :: stk) h tr p) : mY l Θ d M pc loc stk h tr p := fun r hr => z_getstatic hd hw hq (k r hr)
theorem y_oldget {i j : Nat} {C0 n0 d0 : String} {v : Value} (hd : decode (mMc M) pc = .ok (.getfield i, 3)) (hw : Cond.fieldLink (mMy M).cls i C0 n0 d0 ∈ gtbl) (hq : (j, C0, n0, d0, v) ∈ mOF Θ) (k : mY l Θ d M (pc + 3) loc (v :: stk) h tr p) : mY l Θ d M pc loc (.ref (mwad Θ j) :: stk) h tr p := fun r hr => z_oldget hd hw hq (k r hr)
theorem y_oldiald {j N : Nat} {f : Nat → Value} {x : Int32} {v : Value} (hd : decode (mMc M) pc = .ok (.iaload, 1)) (hq : (j, .int, N, f) ∈ mOA Θ) (hin : vp_in x N) (hv : f x.toNatClampNeg = v) (k : mY l Θ d M (pc + 1) loc (v :: stk) h tr p) : mY l Θ d M pc loc (.int x :: .ref (mwad Θ j) :: stk) h tr p := fun r hr => z_oldiald hd hq hin hv (k r hr)
theorem y_oldbald {j N : Nat} {f : Nat → Value} {x : Int32} {v : Value} (hd : decode (mMc M) pc = .ok (.baload, 1)) (hq : (j, .byte, N, f) ∈ mOA Θ) (hin : vp_in x N) (hv : f x.toNatClampNeg = v) (k : mY l Θ d M (pc + 1) loc (v :: stk) h tr p) : mY l Θ d M pc loc (.int x :: .ref (mwad Θ j) :: stk) h tr p := fun r hr => z_oldbald hd hq hin hv (k r hr)
theorem y_oldaald {j N : Nat} {C0 : String} {f : Nat → Value} {x : Int32} {v : Value} (hd : decode (mMc M) pc = .ok (.aaload, 1)) (hq : (j, .object C0, N, f) ∈ mOA Θ) (hin : vp_in x N) (hv : f x.toNatClampNeg = v) (k : mY l Θ d M (pc + 1) loc (v :: stk) h tr p) : mY l Θ d M pc loc (.int x :: .ref (mwad Θ j) :: stk) h tr p := fun r hr => z_oldaald hd hq hin hv (k r hr)
theorem y_oldalen {j N : Nat} {ty : FieldType} {f : Nat → Value} {v : Int32} (hd : decode (mMc M) pc = .ok (.arraylength, 1)) (hq : (j, ty, N, f) ∈ mOA Θ) (hv : Int32.ofNat N = v) (k : mY l Θ d M (pc + 1) loc (.int v :: stk) h tr p) : mY l Θ d M pc loc (.ref (mwad Θ j) :: stk) h tr p := fun r hr => z_oldalen hd hq hv (k r hr)
theorem y_tabOut {dflt lo hi : Int} {offs : Array Int} {len tgt : Nat} {x : Int32} {p1 p2 : Option ρ} (hd : decode (mMc M) pc = .ok (.tableswitch dflt lo hi offs, len)) (ht : (pc : Int) + dflt = (tgt : Int)) (k1 : mY l Θ d M tgt loc stk h tr p1) (k2 : ¬ (x.toInt < lo ∨ hi < x.toInt) → mY l Θ d M pc loc (.int x :: stk) h tr p2) : mY l Θ d M pc loc (.int x :: stk) h tr (if x.toInt < lo ∨ hi < x.toInt then p1 else p2) := fun r hr => by
  by_cases hc : x.toInt < lo ∨ hi < x.toInt
  · rw [if_pos hc] at hr
    exact z_tableOut hd hc ht (k1 r hr)
  · rw [if_neg hc] at hr
    exact k2 hc r hr
theorem y_tabIn {dflt lo hi off : Int} {offs : Array Int} {len tgt : Nat} {x : Int32} {c : Int} {p1 p2 : Option ρ} (hd : decode (mMc M) pc = .ok (.tableswitch dflt lo hi offs, len)) (hn : ¬ (x.toInt < lo ∨ hi < x.toInt)) (hc : (J c).toInt = c) (ho : offs[(c - lo).toNat]? = some off) (ht : (pc : Int) + off = (tgt : Int)) (k1 : mY l Θ d M tgt loc stk h tr p1) (k2 : mY l Θ d M pc loc (.int x :: stk) h tr p2) : mY l Θ d M pc loc (.int x :: stk) h tr (if x = J c then p1 else p2) := fun r hr => by
  by_cases h9 : x = J c
  · rw [if_pos h9] at hr
    refine z_tableIn hd (fun h8 => hn (Or.inl h8)) (fun h8 => hn (Or.inr h8)) ?_ ht (k1 r hr)
    rw [h9, hc]
    exact ho
  · rw [if_neg h9] at hr
    exact k2 r hr
/-! reads and writes -/
theorem rV_eq {ci q k : Nat} {v : Value} (e : rV Θ h ci q k = some v) : ∃ fs, gt Θ h q = some (oB ci fs) ∧ fs[k]? = some v := by
  unfold rV at e
  split at e
  · rename_i c fs hg
    split at e
    · rename_i hc; subst hc; exact ⟨fs, hg, e⟩
    · cases e
  · cases e
theorem rI_eq {ci q k : Nat} {v : Int32} (e : rI Θ h ci q k = some v) : rV Θ h ci q k = some (.int v) := by
  unfold rI at e
  split at e
  · rename_i w hw; cases e; exact hw
  · cases e
theorem rA_eq {ci q k : Nat} {v : Nat} (e : rA Θ h ci q k = some v) : rV Θ h ci q k = some (.ref v) := by
  unfold rA at e
  split at e
  · rename_i w hw; cases e; exact hw
  · cases e
theorem bo_eq {α : Type} {x : Option α} {F : α → Option ρ} {r : ρ} (e : bo x F = some r) : ∃ v, x = some v ∧ F v = some r := by
  cases x with
  | none => cases e
  | some v => exact ⟨v, rfl, e⟩
theorem y_getI {i q ci k : Nat} {F : Int32 → Option ρ} (hd : decode (mMc M) pc = .ok (.getfield i, 3)) (hf : mFl (mMy M).cls i ci k) (kk : ∀ v, mY l Θ d M (pc + 3) loc (.int v :: stk) h tr (F v)) : mY l Θ d M pc loc (.ref q :: stk) h tr (bo (rI Θ h ci q k) F) := fun r hr => by
  obtain ⟨v, e, hr⟩ := bo_eq hr
  obtain ⟨fs, hg, hv⟩ := rV_eq (rI_eq e)
  exact z_getfield hd hf hg hv (kk v r hr)
theorem y_getA {i q ci k : Nat} {F : Nat → Option ρ} (hd : decode (mMc M) pc = .ok (.getfield i, 3)) (hf : mFl (mMy M).cls i ci k) (kk : ∀ v, mY l Θ d M (pc + 3) loc (.ref v :: stk) h tr (F v)) : mY l Θ d M pc loc (.ref q :: stk) h tr (bo (rA Θ h ci q k) F) := fun r hr => by
  obtain ⟨v, e, hr⟩ := bo_eq hr
  obtain ⟨fs, hg, hv⟩ := rV_eq (rA_eq e)
  exact z_getfield hd hf hg hv (kk v r hr)
theorem wF_eq {ci q k : Nat} {v : Value} {h1 : mH} (e : wF Θ h ci q k v = some h1) : ∃ fs, gt Θ h q = some (oB ci fs) ∧ k < fs.length ∧ pt Θ h q (oB ci (fs.set k v)) = h1 := by
  unfold wF at e
  split at e
  · rename_i c fs hg
    split at e
    · rename_i hc
      obtain ⟨rfl, hk⟩ := hc
      exact ⟨fs, hg, hk, Option.some.inj e⟩
    · cases e
  · cases e
theorem y_put {i q ci k : Nat} {v : Value} {ty : FieldType} {F : mH → Option ρ} (hd : decode (mMc M) pc = .ok (.putfield i, 3)) (hf : mFp (mMy M).cls i ci k ty) (hn : narrow ty v = v) (hfit : fits ty v = true) (kk : ∀ h1, mY l Θ d M (pc + 3) loc stk h1 tr (F h1)) : mY l Θ d M pc loc (v :: .ref q :: stk) h tr (bo (wF Θ h ci q k v) F) := fun r hr => by
  obtain ⟨h1, e, hr⟩ := bo_eq hr
  obtain ⟨fs, hg, hk, rfl⟩ := wF_eq e
  exact z_putfield hd hf hg hk hn hfit (kk _ r hr)
theorem y_putF {i q ci k : Nat} {v : Value} {ty : FieldType} {F : mH → Option ρ} (hd : decode (mMc M) pc = .ok (.putfield i, 3)) (hin : (mMy M).name = "<init>") (hf : mFf (mMy M).cls i ci k ty) (hn : narrow ty v = v) (hfit : fits ty v = true) (kk : ∀ h1, mY l Θ d M (pc + 3) loc stk h1 tr (F h1)) : mY l Θ d M pc loc (v :: .ref q :: stk) h tr (bo (wF Θ h ci q k v) F) := fun r hr => by
  obtain ⟨h1, e, hr⟩ := bo_eq hr
  obtain ⟨fs, hg, hk, rfl⟩ := wF_eq e
  exact z_putfieldF hd hin hf hg hk hn hfit (kk _ r hr)
theorem z01 {v : Int32} (hv : v = J 0 ∨ v = J 1) : narrow .boolean (.int v) = .int v ∧ fits .boolean (.int v) = true := by
  rcases hv with rfl | rfl <;> decide +kernel
theorem zC {v : Int32} (hv : 0 ≤ v ∧ v ≤ 65535) : narrow .char (.int v) = .int v := by
  show Value.int v.toUInt32.toUInt16.toUInt32.toInt32 = _
  congr 1
  apply Int32.toBitVec_inj.mp
  apply BitVec.eq_of_toNat_eq
  have a : (0 : Int32).toInt ≤ v.toInt := Int32.le_iff_toInt_le.mp hv.1
  have b : v.toInt ≤ (65535 : Int32).toInt := Int32.le_iff_toInt_le.mp hv.2
  have a' : (0 : Int32).toInt = 0 := rfl
  have b' : (65535 : Int32).toInt = 65535 := by decide +kernel
  have c : v.toInt = v.toBitVec.toInt := rfl
  rw [BitVec.toInt_eq_toNat_cond] at c
  have lt := v.toBitVec.isLt
  show ((v.toBitVec.setWidth 16).setWidth 32).toNat = _
  simp only [BitVec.toNat_setWidth]
  split at c <;> omega
theorem y_gZ {v : Int32} {p1 : Option ρ} (k : narrow .boolean (.int v) = .int v → fits .boolean (.int v) = true → mY l Θ d M pc loc stk h tr p1) : mY l Θ d M pc loc stk h tr (if v = J 0 ∨ v = J 1 then p1 else none) := y_gd (fun hv => k (z01 hv).1 (z01 hv).2)
theorem y_gC {v : Int32} {p1 : Option ρ} (k : narrow .char (.int v) = .int v → mY l Θ d M pc loc stk h tr p1) : mY l Θ d M pc loc stk h tr (if 0 ≤ v ∧ v ≤ 65535 then p1 else none) := y_gd (fun hv => k (zC hv))
theorem y_gB {v : Int32} {p1 : Option ρ} (k : narrow .byte (.int v) = .int v → fits .byte (.int v) = true → mY l Θ d M pc loc stk h tr p1) : mY l Θ d M pc loc stk h tr (if v.toInt8.toInt32 = v ∧ fits .byte (.int v) = true then p1 else none) := y_gd (fun hv => k (by show Value.int v.toInt8.toInt32 = _; rw [hv.1]) hv.2)
theorem aR_eq {t q : Nat} {x v : Int32} (e : aR Θ h t q x = some v) : ∃ n f, gt Θ h q = some (aI t n f) ∧ vp_in x n ∧ f x.toNatClampNeg = v := by
  unfold aR at e
  split at e
  · rename_i c n f hg
    split at e
    · rename_i hc; obtain ⟨rfl, hx⟩ := hc; exact ⟨n, f, hg, hx, Option.some.inj e⟩
    · cases e
  · cases e
theorem aW_eq {t q : Nat} {x v : Int32} {h1 : mH} (e : aW Θ h t q x v = some h1) : ∃ n f, gt Θ h q = some (aI t n f) ∧ vp_in x n ∧ pt Θ h q (aI t n (upd f x.toNatClampNeg v)) = h1 := by
  unfold aW at e
  split at e
  · rename_i c n f hg
    split at e
    · rename_i hc; obtain ⟨rfl, hx⟩ := hc; exact ⟨n, f, hg, hx, Option.some.inj e⟩
    · cases e
  · cases e
theorem aRL_eq {q : Nat} {x : Int32} {v : Int64} (e : aRL Θ h q x = some v) : ∃ n f, gt Θ h q = some (aL n f) ∧ vp_in x n ∧ f x.toNatClampNeg = v := by
  unfold aRL at e
  split at e
  · rename_i c n f hg
    split at e
    · rename_i hc; obtain ⟨rfl, hx⟩ := hc; exact ⟨n, f, hg, hx, Option.some.inj e⟩
    · cases e
  · cases e
theorem aWL_eq {q : Nat} {x : Int32} {v : Int64} {h1 : mH} (e : aWL Θ h q x v = some h1) : ∃ n f, gt Θ h q = some (aL n f) ∧ vp_in x n ∧ pt Θ h q (aL n (vp_updL f x.toNatClampNeg v)) = h1 := by
  unfold aWL at e
  split at e
  · rename_i c n f hg
    split at e
    · rename_i hc; obtain ⟨rfl, hx⟩ := hc; exact ⟨n, f, hg, hx, Option.some.inj e⟩
    · cases e
  · cases e
theorem aRD_eq {q : Nat} {x : Int32} {v : UInt64} (e : aRD Θ h q x = some v) : ∃ n f, gt Θ h q = some (aD n f) ∧ vp_in x n ∧ f x.toNatClampNeg = v := by
  unfold aRD at e
  split at e
  · rename_i c n f hg
    split at e
    · rename_i hc; obtain ⟨rfl, hx⟩ := hc; exact ⟨n, f, hg, hx, Option.some.inj e⟩
    · cases e
  · cases e
theorem aWD_eq {q : Nat} {x : Int32} {v : UInt64} {h1 : mH} (e : aWD Θ h q x v = some h1) : ∃ n f, gt Θ h q = some (aD n f) ∧ vp_in x n ∧ pt Θ h q (aD n (vf_upd f x.toNatClampNeg v)) = h1 := by
  unfold aWD at e
  split at e
  · rename_i c n f hg
    split at e
    · rename_i hc; obtain ⟨rfl, hx⟩ := hc; exact ⟨n, f, hg, hx, Option.some.inj e⟩
    · cases e
  · cases e
theorem aRQ_eq {t q : Nat} {x : Int32} {v : Nat} (e : aRQ Θ h t q x = some v) : ∃ n f, gt Θ h q = some (aQ t n f) ∧ vp_in x n ∧ f x.toNatClampNeg = some v := by
  unfold aRQ at e
  split at e
  · rename_i c n f hg
    split at e
    · rename_i hc; obtain ⟨rfl, hx⟩ := hc; exact ⟨n, f, hg, hx, e⟩
    · cases e
  · cases e
theorem aWQ_eq {t ci q v : Nat} {x : Int32} {h1 : mH} (e : aWQ Θ h t ci q x v = some h1) : ∃ n f vs, gt Θ h q = some (aQ t n f) ∧ gt Θ h v = some (oB ci vs) ∧ vp_in x n ∧ pt Θ h q (aQ t n (va_up f x.toNatClampNeg (some v))) = h1 := by
  unfold aWQ at e
  split at e
  · rename_i c n f c' vs hg hv
    split at e
    · rename_i hc; obtain ⟨⟨rfl, rfl⟩, hx⟩ := hc; exact ⟨n, f, vs, hg, hv, hx, Option.some.inj e⟩
    · cases e
  · cases e
theorem aN_eq {q : Nat} {v : Int32} (e : aN Θ h q = some v) : ∃ t n x, gt Θ h q = some (.inl (t, n, x)) ∧ t < 7 ∧ Int32.ofNat n = v := by
  unfold aN at e
  split at e
  · rename_i t n x hg
    split at e
    · rename_i hc; exact ⟨t, n, x, hg, hc, Option.some.inj e⟩
    · cases e
  · cases e
theorem gO_eq {ci q : Nat} {p : Option ρ} {r : ρ} (e : gO Θ h ci q p = some r) : ∃ fs, gt Θ h q = some (oB ci fs) ∧ p = some r := by
  unfold gO at e
  split at e
  · rename_i c fs hg
    split at e
    · rename_i hc; subst hc; exact ⟨fs, hg, e⟩
    · cases e
  · cases e
theorem cpI_eq {t q0 q1 : Nat} {sp dp n : Int32} {h1 : mH} (e : cpI Θ h t q0 sp q1 dp n = some h1) : ∃ n0 f n1 g, gt Θ h q0 = some (aI t n0 f) ∧ gt Θ h q1 = some (aI t n1 g) ∧ ¬ sp < 0 ∧ ¬ dp < 0 ∧ ¬ n < 0 ∧ sp.toNatClampNeg + n.toNatClampNeg ≤ n0 ∧ dp.toNatClampNeg + n.toNatClampNeg ≤ n1 ∧ pt Θ h q1 (aI t n1 (va_cpy f g sp.toNatClampNeg dp.toNatClampNeg n.toNatClampNeg)) = h1 := by
  unfold cpI at e
  split at e
  · rename_i t0 n0 f t1 n1 g hg hv
    split at e
    · rename_i hc; obtain ⟨⟨rfl, rfl⟩, ⟨a, b, c⟩, a', b'⟩ := hc; exact ⟨n0, f, n1, g, hg, hv, a, b, c, a', b', Option.some.inj e⟩
    · cases e
  · cases e
theorem y_iald {q : Nat} {x : Int32} {F : Int32 → Option ρ} (hd : decode (mMc M) pc = .ok (.iaload, 1)) (kk : ∀ v, mY l Θ d M (pc + 1) loc (.int v :: stk) h tr (F v)) : mY l Θ d M pc loc (.int x :: .ref q :: stk) h tr (bo (aR Θ h 0 q x) F) := fun r hr => by
  obtain ⟨v, e, hr⟩ := bo_eq hr
  obtain ⟨n, f, hg, hx, hv⟩ := aR_eq e
  exact z_iald hd hg hx hv (kk v r hr)
theorem y_zald {q : Nat} {x : Int32} {F : Int32 → Option ρ} (hd : decode (mMc M) pc = .ok (.baload, 1)) (kk : ∀ v, mY l Θ d M (pc + 1) loc (.int v :: stk) h tr (F v)) : mY l Θ d M pc loc (.int x :: .ref q :: stk) h tr (bo (aR Θ h 1 q x) F) := fun r hr => by
  obtain ⟨v, e, hr⟩ := bo_eq hr
  obtain ⟨n, f, hg, hx, hv⟩ := aR_eq e
  exact z_zald hd hg hx hv (kk v r hr)
theorem y_bald {q : Nat} {x : Int32} {F : Int32 → Option ρ} (hd : decode (mMc M) pc = .ok (.baload, 1)) (kk : ∀ v, mY l Θ d M (pc + 1) loc (.int v :: stk) h tr (F v)) : mY l Θ d M pc loc (.int x :: .ref q :: stk) h tr (bo (aR Θ h 4 q x) F) := fun r hr => by
  obtain ⟨v, e, hr⟩ := bo_eq hr
  obtain ⟨n, f, hg, hx, hv⟩ := aR_eq e
  exact z_bald hd hg hx hv (kk v r hr)
theorem y_qald {t q : Nat} {x : Int32} {F : Nat → Option ρ} (ht : t = 5 ∨ t = 6) (hd : decode (mMc M) pc = .ok (.aaload, 1)) (kk : ∀ v, mY l Θ d M (pc + 1) loc (.ref v :: stk) h tr (F v)) : mY l Θ d M pc loc (.int x :: .ref q :: stk) h tr (bo (aRQ Θ h t q x) F) := fun r hr => by
  obtain ⟨v, e, hr⟩ := bo_eq hr
  obtain ⟨n, f, hg, hx, hv⟩ := aRQ_eq e
  exact z_qald ht hd hg hx (v := .ref v) (by rw [hv]; rfl) (kk v r hr)
theorem y_alen {q : Nat} {F : Int32 → Option ρ} (hd : decode (mMc M) pc = .ok (.arraylength, 1)) (kk : ∀ v, mY l Θ d M (pc + 1) loc (.int v :: stk) h tr (F v)) : mY l Θ d M pc loc (.ref q :: stk) h tr (bo (aN Θ h q) F) := fun r hr => by
  obtain ⟨v, e, hr⟩ := bo_eq hr
  obtain ⟨t, n, x, hg, ht, hv⟩ := aN_eq e
  exact z_alen ht hd hg hv (kk v r hr)
theorem y_iast {q : Nat} {x v : Int32} {F : mH → Option ρ} (hd : decode (mMc M) pc = .ok (.iastore, 1)) (kk : ∀ h1, mY l Θ d M (pc + 1) loc stk h1 tr (F h1)) : mY l Θ d M pc loc (.int v :: .int x :: .ref q :: stk) h tr (bo (aW Θ h 0 q x v) F) := fun r hr => by
  obtain ⟨h1, e, hr⟩ := bo_eq hr
  obtain ⟨n, f, hg, hx, rfl⟩ := aW_eq e
  exact z_iast hd hg hx (kk _ r hr)
theorem y_zast {q : Nat} {x v : Int32} {F : mH → Option ρ} (hd : decode (mMc M) pc = .ok (.bastore, 1)) (kk : ∀ h1, mY l Θ d M (pc + 1) loc stk h1 tr (F h1)) : mY l Θ d M pc loc (.int v :: .int x :: .ref q :: stk) h tr (bo (aW Θ h 1 q x (vp_nar .boolean v)) F) := fun r hr => by
  obtain ⟨h1, e, hr⟩ := bo_eq hr
  obtain ⟨n, f, hg, hx, rfl⟩ := aW_eq e
  exact z_zast hd hg hx (kk _ r hr)
theorem y_bast {q : Nat} {x v : Int32} {F : mH → Option ρ} (hd : decode (mMc M) pc = .ok (.bastore, 1)) (kk : ∀ h1, mY l Θ d M (pc + 1) loc stk h1 tr (F h1)) : mY l Θ d M pc loc (.int v :: .int x :: .ref q :: stk) h tr (bo (aW Θ h 4 q x (vp_nar .byte v)) F) := fun r hr => by
  obtain ⟨h1, e, hr⟩ := bo_eq hr
  obtain ⟨n, f, hg, hx, rfl⟩ := aW_eq e
  exact z_bast hd hg hx (kk _ r hr)
theorem y_qast {t ci q v : Nat} {x : Int32} {F : mH → Option ρ} (ht : (t = 5 ∧ ci = 3) ∨ (t = 6 ∧ ci = 1)) (hd : decode (mMc M) pc = .ok (.aastore, 1)) (kk : ∀ h1, mY l Θ d M (pc + 1) loc stk h1 tr (F h1)) : mY l Θ d M pc loc (.ref v :: .int x :: .ref q :: stk) h tr (bo (aWQ Θ h t ci q x v) F) := fun r hr => by
  obtain ⟨h1, e, hr⟩ := bo_eq hr
  obtain ⟨n, f, vs, hg, hv, hx, rfl⟩ := aWQ_eq e
  exact z_qast ht hd hg hv hx (kk _ r hr)
theorem y_gO {ci q : Nat} (kk : ∀ fs, gt Θ h q = some (oB ci fs) → mY l Θ d M pc loc stk h tr p) : mY l Θ d M pc loc stk h tr (gO Θ h ci q p) := fun r hr => by
  obtain ⟨fs, hg, hr⟩ := gO_eq hr
  exact kk fs hg r hr
theorem y_getO {i q ci k : Nat} {F : Nat → Option ρ} (hd : decode (mMc M) pc = .ok (.getfield i, 3)) (hf : mFl (mMy M).cls i ci k) (kk : ∀ v, mY l Θ d M (pc + 3) loc (.ref (mwad Θ v) :: stk) h tr (F v)) : mY l Θ d M pc loc (.ref q :: stk) h tr (bo (rO Θ h ci q k) F) := fun r hr => by
  obtain ⟨v, e, hr⟩ := bo_eq hr
  unfold rO at e
  split at e
  · rename_i a ha
    obtain ⟨fs, hg, hv⟩ := rV_eq (rA_eq ha)
    have h9 := List.find?_some e
    have h8 : mwad Θ v = a := by simpa using h9
    exact z_getfield hd hf hg (by rw [h8]; exact hv) (kk v r hr)
  · cases e
theorem y_gn {c : Prop} [Decidable c] {p1 : Option ρ} (k1 : ¬ c → mY l Θ d M pc loc stk h tr p1) : mY l Θ d M pc loc stk h tr (if c then none else p1) := y_ite (fun _ => y_none) k1
theorem y_new {i ci : Nat} {fs : List Value} {F : Nat → mH → Option ρ} (hd : decode (mMc M) pc = .ok (.new i, 3)) (hw : mNw (mMy M).cls i ci fs) (kk : ∀ a h1, a = mwB Θ + h.length → h1 = h ++ [oB ci fs] → mY l Θ d M (pc + 3) loc (.ref a :: stk) h1 tr (F a h1)) : mY l Θ d M pc loc stk h tr (al Θ h (oB ci fs) F) := fun r hr => z_new hd hw (kk _ _ rfl rfl r hr)
theorem y_newarr {atype : ArrayType} {t b : Nat} {ty : FieldType} {x : Int32} {a0 : Nat → vp_A} {F : Nat → mH → Option ρ} (hd : decode (mMc M) pc = .ok (.newarray atype, 2)) (hty : newarray.typeOf atype = ty) (ht : ∀ Θ : mW, (mTyC Θ)[t]? = some (mwtC Θ t, ty)) (hw : Cond.arrayClass ty ∈ gtbl) (ha : ∀ (n : Nat) (cA : ClassId), vp_cell cA (a0 n) = arrV cA n (fun _ => defaultValue ty)) (h0 : ∀ n, (a0 n).1 = n) (hb : componentBytes ty = b) (kk : ∀ a h1, mY l Θ d M (pc + 2) loc (.ref a :: stk) h1 tr (F a h1)) : mY l Θ d M pc loc (.int x :: stk) h tr (ala Θ h b x (fun n => .inl (t, a0 n)) F) := fun r hr => by
  unfold ala at hr
  split at hr
  · rename_i hc
    exact z_newarray hd hty ht hw (ha _) (h0 _) hc.1 rfl (by rw [hb]; exact hc.2) (kk _ _ r hr)
  · cases hr
theorem y_anewarr {i t : Nat} {C0 : String} {x : Int32} {F : Nat → mH → Option ρ} (hd : decode (mMc M) pc = .ok (.anewarray i, 3)) (ht : ∀ Θ : mW, (mTyC Θ)[t]? = some (mwtC Θ t, .object C0)) (hw : Cond.classLink (mMy M).cls i C0 ∈ gtbl) (hw2 : C0 ∈ mAo) (kk : ∀ a h1, mY l Θ d M (pc + 3) loc (.ref a :: stk) h1 tr (F a h1)) : mY l Θ d M pc loc (.int x :: stk) h tr (ala Θ h 4 x (fun n => aQ t n (fun _ => none)) F) := fun r hr => by
  unfold ala at hr
  split at hr
  · rename_i hc
    exact z_anewarray hd ht hw hw2 hc.1 rfl hc.2 (kk _ _ r hr)
  · cases hr
theorem y_acopy {i t q0 q1 : Nat} {ty : FieldType} {sp dp n : Int32} {F : mH → Option ρ} (hd : decode (mMc M) pc = .ok (.invokestatic i, 3)) (w1 : Cond.methodLink (mMy M).cls i arraycopyName ∈ gtbl) (w2 : Cond.native arraycopyName ∈ gtbl) (w3 : Cond.static arraycopyName ∈ gtbl) (w4 : Cond.initialized "java/lang/System" ∈ gtbl) (ht : ∀ Θ : mW, (mTyC Θ)[t]? = some (mwtC Θ t, ty)) (hprim : refKind ty = false) (h8 : (stk.map fun v => v.category).sum ≤ 8) (hd1 : 1 ≤ d) (hfit : ∀ (n0 : Nat) (f : Nat → Int32), gt Θ h q0 = some (aI t n0 f) → ∀ j, fits ty (.int (f j)) = true) (kk : ∀ h1, mY l Θ d M (pc + 3) loc stk h1 tr (F h1)) : mY l Θ d M pc loc (.int n :: .int dp :: .ref q1 :: .int sp :: .ref q0 :: stk) h tr (bo (cpI Θ h t q0 sp q1 dp n) F) := fun r hr => by
  obtain ⟨h1, e, hr⟩ := bo_eq hr
  obtain ⟨n0, f, n1, g, hg0, hg1, a, b, c, a', b', rfl⟩ := cpI_eq e
  exact z_acopy hd w1 w2 w3 w4 ht hprim hg0 hg1 a b c a' b' (fun i _ => hfit _ _ hg0 _) h8 hd1 (kk _ r hr)
theorem y_acopyB {i q0 q1 : Nat} {sp dp n : Int32} {F : mH → Option ρ} (hd : decode (mMc M) pc = .ok (.invokestatic i, 3)) (w1 : Cond.methodLink (mMy M).cls i arraycopyName ∈ gtbl) (w2 : Cond.native arraycopyName ∈ gtbl) (w3 : Cond.static arraycopyName ∈ gtbl) (w4 : Cond.initialized "java/lang/System" ∈ gtbl) (h8 : (stk.map fun v => v.category).sum ≤ 8) (hd1 : 1 ≤ d) (kk : ∀ h1, mY l Θ d M (pc + 3) loc stk h1 tr (F h1)) : mY l Θ d M pc loc (.int n :: .int dp :: .ref q1 :: .int sp :: .ref q0 :: stk) h tr (bo (cpB Θ h q0 sp q1 dp n) F) := fun r hr => by
  obtain ⟨h1, e, hr⟩ := bo_eq hr
  unfold cpB at e
  split at e
  · rename_i t0 n9 f9 hg9
    split at e
    · rename_i hall
      obtain ⟨n0, f, n1, g, hg0, hg1, a, b, c, a', b', rfl⟩ := cpI_eq e
      rw [hg9] at hg0
      cases hg0
      exact z_acopy hd w1 w2 w3 w4 (ty := .byte) (fun _ => rfl) rfl hg9 hg1 a b c a' b' (fun i hi => List.all_eq_true.mp hall i (List.mem_range.mpr hi)) h8 hd1 (kk _ r hr)
    · cases e
  · cases e
/-! old things -/
theorem y_oldI {i j : Nat} {C0 n0 d0 : String} {x : Option Int32} {F : Int32 → Option ρ} (hd : decode (mMc M) pc = .ok (.getfield i, 3)) (hw : Cond.fieldLink (mMy M).cls i C0 n0 d0 ∈ gtbl) (hq : ∀ w, x = some w → (j, C0, n0, d0, .int w) ∈ mOF Θ) (kk : ∀ v, mY l Θ d M (pc + 3) loc (.int v :: stk) h tr (F v)) : mY l Θ d M pc loc (.ref (mwad Θ j) :: stk) h tr (bo x F) := fun r hr => by
  obtain ⟨v, e, hr⟩ := bo_eq hr
  exact z_oldget hd hw (hq v e) (kk v r hr)
theorem y_oldA {i j : Nat} {C0 n0 d0 : String} {x : Option Nat} {F : Nat → Option ρ} (hd : decode (mMc M) pc = .ok (.getfield i, 3)) (hw : Cond.fieldLink (mMy M).cls i C0 n0 d0 ∈ gtbl) (hq : ∀ w, x = some w → (j, C0, n0, d0, .ref (mwad Θ w)) ∈ mOF Θ) (kk : ∀ v, mY l Θ d M (pc + 3) loc (.ref (mwad Θ v) :: stk) h tr (F v)) : mY l Θ d M pc loc (.ref (mwad Θ j) :: stk) h tr (bo x F) := fun r hr => by
  obtain ⟨v, e, hr⟩ := bo_eq hr
  exact z_oldget hd hw (hq v e) (kk v r hr)
theorem y_oldAN {i j : Nat} {C0 n0 d0 host : String} {x : Option Nat} {F : Nat → Option ρ} (hd : decode (mMc M) pc = .ok (.getfield i, 3)) (hw : Cond.fieldLinkNest (mMy M).cls i C0 n0 d0 host ∈ mNs) (hq : ∀ w, x = some w → (j, C0, n0, d0, .ref (mwad Θ w)) ∈ mOF Θ) (kk : ∀ v, mY l Θ d M (pc + 3) loc (.ref (mwad Θ v) :: stk) h tr (F v)) : mY l Θ d M pc loc (.ref (mwad Θ j) :: stk) h tr (bo x F) := fun r hr => by
  obtain ⟨v, e, hr⟩ := bo_eq hr
  exact z_oldgetN hd hw (hq v e) (kk v r hr)
theorem y_old8 {j : Nat} {x : Int32} {F : Int32 → Option ρ} (hd : decode (mMc M) pc = .ok (.baload, 1)) (kk : ∀ v, mY l Θ d M (pc + 1) loc (.int v :: stk) h tr (F v)) : mY l Θ d M pc loc (.int x :: .ref (mwad Θ j) :: stk) h tr (bo (oB8 j x) F) := fun r hr => by
  obtain ⟨v, e, hr⟩ := bo_eq hr
  obtain ⟨q, e2, e3⟩ := bo_eq e
  split at e3
  · rename_i hx
    exact z_oldbald hd (oBn_in q e2) hx (by rw [← Option.some.inj e3]) (kk v r hr)
  · cases e3
theorem y_old8l {j : Nat} {F : Int32 → Option ρ} (hd : decode (mMc M) pc = .ok (.arraylength, 1)) (kk : ∀ v, mY l Θ d M (pc + 1) loc (.int v :: stk) h tr (F v)) : mY l Θ d M pc loc (.ref (mwad Θ j) :: stk) h tr (bo (oBl j) F) := fun r hr => by
  obtain ⟨v, e, hr⟩ := bo_eq hr
  obtain ⟨q, e2, e3⟩ := bo_eq e
  exact z_oldalen hd (oBn_in q e2) (Option.some.inj e3) (kk v r hr)
theorem y_oldXl {F : Int32 → Option ρ} (hd : decode (mMc M) pc = .ok (.arraylength, 1)) (kk : ∀ v, mY l Θ d M (pc + 1) loc (.int v :: stk) h tr (F v)) : mY l Θ d M pc loc (.ref (mwad Θ 40) :: stk) h tr (bo (oXl Θ) F) := fun r hr => by
  obtain ⟨v, e, hr⟩ := bo_eq hr
  exact z_oldalen hd (List.mem_of_getElem? (i := 0) rfl) (Option.some.inj e) (kk v r hr)
theorem y_oldX {x : Int32} {F : Int32 → Option ρ} (hd : decode (mMc M) pc = .ok (.iaload, 1)) (kk : ∀ v, mY l Θ d M (pc + 1) loc (.int v :: stk) h tr (F v)) : mY l Θ d M pc loc (.int x :: .ref (mwad Θ 40) :: stk) h tr (bo (oX Θ x) F) := fun r hr => by
  obtain ⟨v, e, hr⟩ := bo_eq hr
  unfold oX at e
  split at e
  · rename_i hx
    exact z_oldiald hd (List.mem_of_getElem? (i := 0) rfl) hx (by rw [← Option.some.inj e]) (kk v r hr)
  · cases e
/-! ends -/
theorem y_retI {v : Int32} {ty : FieldType} (hd : decode (mMc M) pc = .ok (.ireturn, 1)) (hr : mMr M = some ty) (hn : narrow ty (.int v) = .int v) : mY l Θ d M pc loc [.int v] h (tR vI) (some (v, h)) := fun r e => by
  cases e
  exact z_ireturn hd hr hn rfl
theorem y_retIX {v : Int32} {ty : FieldType} (hd : decode (mMc M) pc = .ok (.ireturn, 1)) (hr : mMr M = some ty) (hn : narrow ty (.int v) = .int v) : mY l Θ d M pc loc [.int v] h (tX vI) (some (.inl v, h)) := fun r e => by
  cases e
  exact z_ireturn hd hr hn rfl
theorem y_retU (hd : decode (mMc M) pc = .ok (.return_, 1)) (hr : mMr M = none) : mY l Θ d M pc loc [] h (tR vU) (some ((), h)) := fun r e => by
  cases e
  exact z_return hd hr rfl
theorem y_retUX (hd : decode (mMc M) pc = .ok (.return_, 1)) (hr : mMr M = none) : mY l Θ d M pc loc [] h (tX vU) (some (.inl (), h)) := fun r e => by
  cases e
  exact z_return hd hr rfl
theorem y_retA {v : Nat} {rt : FieldType} (hd : decode (mMc M) pc = .ok (.areturn, 1)) (hr : mMr M = some rt) (hrt : (∃ n, rt = .object n) ∨ ∃ t, rt = .array t) : mY l Θ d M pc loc [.ref v] h (tR vA) (some (v, h)) := fun r e => by
  cases e
  exact z_areturn hd hr hrt (Or.inr ⟨_, rfl⟩) rfl
theorem y_retAX {v : Nat} {rt : FieldType} (hd : decode (mMc M) pc = .ok (.areturn, 1)) (hr : mMr M = some rt) (hrt : (∃ n, rt = .object n) ∨ ∃ t, rt = .array t) : mY l Θ d M pc loc [.ref v] h (tX vA) (some (.inl v, h)) := fun r e => by
  cases e
  exact z_areturn hd hr hrt (Or.inr ⟨_, rfl⟩) rfl
theorem y_retN {v : Nat} {rt : FieldType} (hd : decode (mMc M) pc = .ok (.areturn, 1)) (hr : mMr M = some rt) (hrt : (∃ n, rt = .object n) ∨ ∃ t, rt = .array t) : mY l Θ d M pc loc [.ref v] h (tR vN) (some (some v, h)) := fun r e => by
  cases e
  exact z_areturn hd hr hrt (Or.inr ⟨_, rfl⟩) rfl
theorem y_retN0 {rt : FieldType} (hd : decode (mMc M) pc = .ok (.areturn, 1)) (hr : mMr M = some rt) (hrt : (∃ n, rt = .object n) ∨ ∃ t, rt = .array t) : mY l Θ d M pc loc [.null] h (tR vN) (some (none, h)) := fun r e => by
  cases e
  exact z_areturn hd hr hrt (Or.inl rfl) rfl
theorem y_retD {v : UInt64} (hd : decode (mMc M) pc = .ok (.dreturn, 1)) (hr : mMr M = some .double) : mY l Θ d M pc loc [.double v] h (tR vD) (some (v, h)) := fun r e => by
  cases e
  exact z_dreturn hd hr rfl
theorem y_retDX {v : UInt64} (hd : decode (mMc M) pc = .ok (.dreturn, 1)) (hr : mMr M = some .double) : mY l Θ d M pc loc [.double v] h (tX vD) (some (.inl v, h)) := fun r e => by
  cases e
  exact z_dreturn hd hr rfl
theorem y_retF {v : UInt32} (hd : decode (mMc M) pc = .ok (.freturn, 1)) (hr : mMr M = some .float) : mY l Θ d M pc loc [.float v] h (tR vF) (some (v, h)) := fun r e => by
  cases e
  exact z_freturn hd hr rfl
theorem y_throw {ik is ic n j ix : Nat} {tx : String} {rx : ByteArray} {α : Type} {tv : α → Option Value} (hh : mMh M = []) (d0 : decode (mMc M) pc = .ok (.new ik, 3)) (d3 : decode (mMc M) (pc + 3) = .ok (.dup, 1)) (d4 : decode (mMc M) (pc + 4) = .ok (.ldc is, 2)) (d6 : decode (mMc M) (pc + 6) = .ok (.invokespecial ic, 3)) (d9 : decode (mMc M) (pc + 9) = .ok (.athrow, 1))
    (hE : mExc n ix rx) (w1 : Cond.classLink (mMy M).cls ik (mEx n) ∈ gtbl) (w2 : Cond.methodLink (mMy M).cls ic (Bundle.initS (mEx n)) ∈ gtbl) (hs : (j, (mMy M).cls, is, tx) ∈ mSR) (h8 : (stk.map fun v => v.category).sum ≤ 8) (hd : 6 ≤ d) : mY l Θ d M pc loc stk h (tX tv) (xp n (h ++ [oB n []])) := fun r e => by
  cases e
  exact z_throw hh d0 d3 d4 d6 d9 hE w1 w2 hs h8 hd rfl
theorem y_throwW {ik is ic n j ix : Nat} {tx : String} {rx : ByteArray} {α : Type} {tv : α → Option Value} (hh : mMh M = []) (d0 : decode (mMc M) pc = .ok (.new ik, 3)) (d3 : decode (mMc M) (pc + 3) = .ok (.dup, 1)) (d4 : decode (mMc M) (pc + 4) = .ok (.ldc_w is, 3)) (d7 : decode (mMc M) (pc + 7) = .ok (.invokespecial ic, 3)) (d10 : decode (mMc M) (pc + 10) = .ok (.athrow, 1))
    (hE : mExc n ix rx) (w1 : Cond.classLink (mMy M).cls ik (mEx n) ∈ gtbl) (w2 : Cond.methodLink (mMy M).cls ic (Bundle.initS (mEx n)) ∈ gtbl) (hs : (j, (mMy M).cls, is, tx) ∈ mSR) (h8 : (stk.map fun v => v.category).sum ≤ 8) (hd : 6 ≤ d) : mY l Θ d M pc loc stk h (tX tv) (xp n (h ++ [oB n []])) := fun r e => by
  cases e
  exact z_throwW hh d0 d3 d4 d7 d10 hE w1 w2 hs h8 hd rfl
/-! calls -/
theorem c_st {i n dj : Nat} {M' : mM} {As : List Value} (hd : decode (mMc M) pc = .ok (.invokestatic i, 3)) (hd9 : mCd M' n) (hw : mCs (mMy M).cls i M') (hn : As.length = n) (hst : stk = As.reverse ++ rest) (h8 : (rest.map fun v => v.category).sum ≤ 8) (hdj : dj + 1 ≤ d) (hT : mMs l Θ dj M' As h tr p) : mK l Θ d M pc loc stk rest h tr p := fun r hr => by
  obtain ⟨o1, h1, q, x⟩ := hT r hr
  rw [← q]
  exact mCall.st hd hd9 hw hn hst h8 hdj x
theorem c_vi {i n dj b : Nat} {M' : mM} {C0 : String} {As : List Value} (hd : decode (mMc M) pc = .ok (.invokevirtual i, 3)) (hd9 : mCd M' n) (hw : mCv (mMy M).cls i M' C0) (hrc : mRecv Θ h b C0) (hn : As.length = n) (hst : stk = As.reverse ++ .ref b :: rest) (h8 : (rest.map fun v => v.category).sum ≤ 8) (hdj : dj + 1 ≤ d) (hT : mMs l Θ dj M' (.ref b :: As) h tr p) : mK l Θ d M pc loc stk rest h tr p := fun r hr => by
  obtain ⟨o1, h1, q, x⟩ := hT r hr
  rw [← q]
  exact mCall.vi hd hd9 hw hrc hn hst h8 hdj x
theorem c_in {i n dj b : Nat} {M' : mM} {As : List Value} {p : Option (Unit × mH)} (hd : decode (mMc M) pc = .ok (.invokespecial i, 3)) (hd9 : mCd M' n) (hw : mCi (mMy M).cls i M') (hn : As.length = n) (hst : stk = As.reverse ++ .ref b :: rest) (h8 : (rest.map fun v => v.category).sum ≤ 8) (hdj : dj + 1 ≤ d) (hT : mMs l Θ dj M' (.ref b :: As) h (tR vU) p) : mK l Θ d M pc loc stk rest h (tR vU) p := fun r hr => by
  obtain ⟨o1, h1, q, x⟩ := hT r hr
  cases q
  exact mCall.ini hd hd9 hw hn hst h8 hdj x
theorem c_un {i n dj b : Nat} {M' : mM} {C0 xcls owner : String} {As : List Value} {α : Type} {tv : α → Option Value} {p : Option (α × mH)} (hd : decode (mMc M) pc = .ok (.invokevirtual i, 3)) (hd9 : mCd M' n) (hw : mCu (mMy M).cls i M' C0 xcls owner) (hrc : mRecv Θ h b C0) (hn : As.length = n) (hst : stk = As.reverse ++ .ref b :: rest) (h8 : (rest.map fun v => v.category).sum ≤ 8) (hdj : dj + 1 ≤ d) (hT : mMs l Θ dj M' (.ref b :: As) h (tR tv) p) : mK l Θ d M pc loc stk rest h (tR tv) p := fun r hr => by
  obtain ⟨o1, h1, q, x⟩ := hT r hr
  cases q
  exact mCall.un hd hd9 hw hrc hn hst h8 hdj x
theorem c_pr {i n dj b : Nat} {M' : mM} {C0 : String} {x0 y0 : MethodName} {As : List Value} {α : Type} {tv : α → Option Value} {p : Option (α × mH)} (hd : decode (mMc M) pc = .ok (.invokevirtual i, 3)) (hd9 : mCd M' n) (hw : mCq (mMy M).cls i M' C0 x0 y0) (hrc : mRecv Θ h b C0) (hn : As.length = n) (hst : stk = As.reverse ++ .ref b :: rest) (h8 : (rest.map fun v => v.category).sum ≤ 8) (hdj : dj + 1 ≤ d) (hT : mMs l Θ dj M' (.ref b :: As) h (tR tv) p) : mK l Θ d M pc loc stk rest h (tR tv) p := fun r hr => by
  obtain ⟨o1, h1, q, x⟩ := hT r hr
  cases q
  exact mCall.pr hd hd9 hw hrc hn hst h8 hdj x
theorem c_su {i n dj b ci : Nat} {M' : mM} {fs As : List Value} {α : Type} {tv : α → Option Value} {p : Option (α × mH)} (hd : decode (mMc M) pc = .ok (.invokespecial i, 3)) (hd9 : mCd M' n) (hw : mCp (mMy M).cls i M') (hg : gt Θ h b = some (oB ci fs)) (hn : As.length = n) (hst : stk = As.reverse ++ .ref b :: rest) (h8 : (rest.map fun v => v.category).sum ≤ 8) (hdj : dj + 1 ≤ d) (hT : mMs l Θ dj M' (.ref b :: As) h (tR tv) p) : mK l Θ d M pc loc stk rest h (tR tv) p := fun r hr => by
  obtain ⟨o1, h1, q, x⟩ := hT r hr
  cases q
  exact mCall.su hd hd9 hw hg hn hst h8 hdj x
theorem bc_eq {α : Type} {x : Option (α × mH)} {F : α → mH → Option ρ} {r : ρ} (e : bc x F = some r) : ∃ v h1, x = some (v, h1) ∧ F v h1 = some r := by
  cases x with
  | none => cases e
  | some v => exact ⟨v.1, v.2, rfl, e⟩
theorem y_c {α : Type} {tv : α → Option Value} {p : Option (α × mH)} {F : α → mH → Option ρ} (hc : mK l Θ d M pc loc stk rest h (tR tv) p) (k : ∀ v h1, mY l Θ d M (pc + 3) loc ((tv v).toList ++ rest) h1 tr (F v h1)) : mY l Θ d M pc loc stk h tr (bc p F) := fun r hr => by
  obtain ⟨v, h1, e, hr⟩ := bc_eq hr
  refine mZ.call (rest := rest) (Qc := fun o h' => o = .inl (tv v) ∧ h' = h1) ⟨_, _, ⟨rfl, rfl⟩, hc _ e⟩ (fun v2 h2 q => ?_) (fun n h2 q => by cases q.1)
  obtain ⟨q1, rfl⟩ := q
  cases q1
  exact k v h2 r hr
theorem y_cI {p : Option (Int32 × mH)} {F : Int32 → mH → Option ρ} (hc : mK l Θ d M pc loc stk rest h (tR vI) p) (k : ∀ v h1, mY l Θ d M (pc + 3) loc (.int v :: rest) h1 tr (F v h1)) : mY l Θ d M pc loc stk h tr (bc p F) := y_c hc k
theorem y_cU {p : Option (Unit × mH)} {F : Unit → mH → Option ρ} (hc : mK l Θ d M pc loc stk rest h (tR vU) p) (k : ∀ v h1, mY l Θ d M (pc + 3) loc rest h1 tr (F v h1)) : mY l Θ d M pc loc stk h tr (bc p F) := y_c hc k
theorem y_cA {p : Option (Nat × mH)} {F : Nat → mH → Option ρ} (hc : mK l Θ d M pc loc stk rest h (tR vA) p) (k : ∀ v h1, mY l Θ d M (pc + 3) loc (.ref v :: rest) h1 tr (F v h1)) : mY l Θ d M pc loc stk h tr (bc p F) := y_c hc k
theorem y_cD {p : Option (UInt64 × mH)} {F : UInt64 → mH → Option ρ} (hc : mK l Θ d M pc loc stk rest h (tR vD) p) (k : ∀ v h1, mY l Θ d M (pc + 3) loc (.double v :: rest) h1 tr (F v h1)) : mY l Θ d M pc loc stk h tr (bc p F) := y_c hc k
theorem y_cF {p : Option (UInt32 × mH)} {F : UInt32 → mH → Option ρ} (hc : mK l Θ d M pc loc stk rest h (tR vF) p) (k : ∀ v h1, mY l Θ d M (pc + 3) loc (.float v :: rest) h1 tr (F v h1)) : mY l Θ d M pc loc stk h tr (bc p F) := y_c hc k
theorem bn_bc {p : Option (Option Nat × mH)} {F : Nat → mH → Option ρ} {G : mH → Option ρ} : bn p F G = bc p (fun v h1 => match v with | some a => F a h1 | none => G h1) := by
  rcases p with _ | ⟨_ | a, h1⟩ <;> rfl
theorem y_cN {p : Option (Option Nat × mH)} {F : Nat → mH → Option ρ} {G : mH → Option ρ} (hc : mK l Θ d M pc loc stk rest h (tR vN) p) (k : ∀ v h1, mY l Θ d M (pc + 3) loc (.ref v :: rest) h1 tr (F v h1)) (k0 : ∀ h1, mY l Θ d M (pc + 3) loc (.null :: rest) h1 tr (G h1)) : mY l Θ d M pc loc stk h tr (bn p F G) := by
  rw [bn_bc]
  refine y_c hc (fun v h1 => ?_)
  cases v with
  | none => exact k0 h1
  | some a => exact k a h1
theorem bx_eq {α : Type} {x : Option ((α ⊕ Nat) × mH)} {F : α → mH → Option ρ} {G : Nat → mH → Option ρ} {r : ρ} (e : bx x F G = some r) : (∃ v h1, x = some (.inl v, h1) ∧ F v h1 = some r) ∨ ∃ n h1, x = some (.inr n, h1) ∧ G n h1 = some r := by
  rcases x with _ | ⟨v | n, h1⟩
  · cases e
  · exact Or.inl ⟨v, h1, rfl, e⟩
  · exact Or.inr ⟨n, h1, rfl, e⟩
theorem y_x {α : Type} {tv : α → Option Value} {p : Option ((α ⊕ Nat) × mH)} {F : α → mH → Option ρ} {G : Nat → mH → Option ρ} (hc : mK l Θ d M pc loc stk rest h (tX tv) p) (k : ∀ v h1, mY l Θ d M (pc + 3) loc ((tv v).toList ++ rest) h1 tr (F v h1)) (kx : ∀ n h1, mHY l Θ d M pc loc n h1 tr (G n h1)) : mY l Θ d M pc loc stk h tr (bx p F G) := fun r hr => by
  rcases bx_eq hr with ⟨v, h1, e, hr⟩ | ⟨n, h1, e, hr⟩
  · refine mZ.call (rest := rest) (Qc := fun o h' => o = .inl (tv v) ∧ h' = h1) ⟨_, _, ⟨rfl, rfl⟩, hc _ e⟩ (fun v2 h2 q => ?_) (fun n h2 q => by cases q.1)
    obtain ⟨q1, rfl⟩ := q
    cases q1
    exact k v h2 r hr
  · refine mZ.call (rest := rest) (Qc := fun o h' => o = .inr n ∧ h' = h1) ⟨_, _, ⟨rfl, rfl⟩, hc _ e⟩ (fun v2 h2 q => by cases q.1) (fun n2 h2 q => ?_)
    obtain ⟨q1, rfl⟩ := q
    cases q1
    exact kx n h2 r hr
theorem y_xI {p : Option ((Int32 ⊕ Nat) × mH)} {F : Int32 → mH → Option ρ} {G : Nat → mH → Option ρ} (hc : mK l Θ d M pc loc stk rest h (tX vI) p) (k : ∀ v h1, mY l Θ d M (pc + 3) loc (.int v :: rest) h1 tr (F v h1)) (kx : ∀ n h1, mHY l Θ d M pc loc n h1 tr (G n h1)) : mY l Θ d M pc loc stk h tr (bx p F G) := y_x hc k kx
theorem y_xU {p : Option ((Unit ⊕ Nat) × mH)} {F : Unit → mH → Option ρ} {G : Nat → mH → Option ρ} (hc : mK l Θ d M pc loc stk rest h (tX vU) p) (k : ∀ v h1, mY l Θ d M (pc + 3) loc rest h1 tr (F v h1)) (kx : ∀ n h1, mHY l Θ d M pc loc n h1 tr (G n h1)) : mY l Θ d M pc loc stk h tr (bx p F G) := y_x hc k kx
theorem y_xA {p : Option ((Nat ⊕ Nat) × mH)} {F : Nat → mH → Option ρ} {G : Nat → mH → Option ρ} (hc : mK l Θ d M pc loc stk rest h (tX vA) p) (k : ∀ v h1, mY l Θ d M (pc + 3) loc (.ref v :: rest) h1 tr (F v h1)) (kx : ∀ n h1, mHY l Θ d M pc loc n h1 tr (G n h1)) : mY l Θ d M pc loc stk h tr (bx p F G) := y_x hc k kx
theorem y_xD {p : Option ((UInt64 ⊕ Nat) × mH)} {F : UInt64 → mH → Option ρ} {G : Nat → mH → Option ρ} (hc : mK l Θ d M pc loc stk rest h (tX vD) p) (k : ∀ v h1, mY l Θ d M (pc + 3) loc (.double v :: rest) h1 tr (F v h1)) (kx : ∀ n h1, mHY l Θ d M pc loc n h1 tr (G n h1)) : mY l Θ d M pc loc stk h tr (bx p F G) := y_x hc k kx
theorem y_hp {n : Nat} {α : Type} {tv : α → Option Value} (hh : mMh M = []) : mHY l Θ d M pc loc n h (tX tv) (xp n h) := fun r e => by
  cases e
  exact Or.inl ⟨hh, rfl⟩
theorem y_h0 {n : Nat} : mHY l Θ d M pc loc n h tr none := fun r e => by cases e
theorem y_h1 {n n0 hpc : Nat} {p1 p2 : Option ρ} (hcat : mCatch M pc n0 hpc) (k : ∀ q, mY l Θ d M hpc loc [.ref q] h tr p1) (k2 : mHY l Θ d M pc loc n h tr p2) : mHY l Θ d M pc loc n h tr (if n = n0 then p1 else p2) := fun r e => by
  by_cases hn : n = n0
  · subst hn
    rw [if_pos rfl] at e
    exact Or.inr ⟨hpc, (tr r).1, (tr r).2, hcat, rfl, fun q => mZ.mono (k q r e) (fun o h' hq => by rw [← hq]; exact ⟨rfl, rfl⟩)⟩
  · rw [if_neg hn] at e
    exact k2 r e
theorem y_objInit {i b : Nat} (hd : decode (mMc M) pc = .ok (.invokespecial i, 3)) (h1 : Cond.methodLink (mMy M).cls i objectInit ∈ gtbl) (h2 : Cond.instanceMethod objectInit ∈ gtbl) (h3 : Cond.code objectInit ⟨#[0xb1]⟩ 1 none ∈ gtbl) (h8 : (stk.map fun v => v.category).sum ≤ 8) (hdj : 1 ≤ d) (k : mY l Θ d M (pc + 3) loc stk h tr p) : mY l Θ d M pc loc (.ref b :: stk) h tr p := fun r hr => z_objInit hd h1 h2 h3 h8 hdj (k r hr)
theorem y_getstaticN {i : Nat} {C0 n0 d0 host : String} {v : Value} (hd : decode (mMc M) pc = .ok (.getstatic i, 3)) (hw : Cond.fieldLinkNest (mMy M).cls i C0 n0 d0 host ∈ mNs) (hq : (C0, n0, d0, v) ∈ mSt Θ) (k : mY l Θ d M (pc + 3) loc (v :: stk) h tr p) : mY l Θ d M pc loc stk h tr p := fun r hr => z_getstaticN hd hw hq (k r hr)
theorem y_ldcfw {i : Nat} {v : UInt32} (hd : decode (mMc M) pc = .ok (.ldc_w i, 3)) (hw : Cond.constantFloat (mMy M).cls i v ∈ gtbl) (k : mY l Θ d M (pc + 3) loc (.float v :: stk) h tr p) : mY l Θ d M pc loc stk h tr p := fun r hr => z_ldcfw hd hw (k r hr)
end YR
