/-! A JUDGEMENT over a heap by numbers: mX says of a method's frame how it ends (what is returned or thrown, which heap); mM says it of a method. -/
abbrev mE : Type := (Nat × vp_A) ⊕ (Nat × List Value)
abbrev mH : Type := List mE
/-- the end: returned, or thrown (the number of the class) -/
abbrev mO : Type := Option Value ⊕ Nat
/-- a method: name, bytes, locals, result, handlers -/
abbrev mM : Type := MethodName × ByteArray × Nat × Option FieldType × List (Nat × Nat × Nat × Nat)
abbrev mMy (M : mM) : MethodName := M.1
abbrev mMc (M : mM) : ByteArray := M.2.1
abbrev mMl (M : mM) : Nat := M.2.2.1
abbrev mMr (M : mM) : Option FieldType := M.2.2.2.1
abbrev mMh (M : mM) : List (Nat × Nat × Nat × Nat) := M.2.2.2.2
def mMw (M : mM) : Cond := if (mMh M).isEmpty then .code (mMy M) (mMc M) (mMl M) (mMr M) else .codeWith (mMy M) (mMc M) (mMl M) (mMr M) (mMh M)
def mWs (M : mM) : List Cond := mMw M :: gtbl
def mEx (n : Nat) : String := (mCl.getD n ("", mTe, 0)).1
def mcv (Θ : mW) : mE → va_E
  | .inl a => .inl (mwtC Θ a.1, a.2)
  | .inr o => .inr o
def mRel (Θ : mW) (h : mH) (H : Heap) : Prop := H.size = mwB Θ + h.length ∧ ∀ (k : Nat) (e : mE), h[k]? = some e → va_at (mwD Θ) mCl (mwB Θ + k, mcv Θ e) H
def gt (Θ : mW) (h : mH) (q : Nat) : Option mE := if mwB Θ ≤ q then h[q - mwB Θ]? else none
def pt (Θ : mW) (h : mH) (q : Nat) (e : mE) : mH := h.set (q - mwB Θ) e
def msz1 : mE → Nat
  | .inl a => a.2.1
  | .inr o => if o.2.length = 0 then 6 else o.2.length
def msz (h : mH) : Nat := (h.map msz1).sum
def mOld (Θ : mW) (H0 H : Heap) : Prop := ∀ q : Nat, q < mwB Θ → H[q]? = H0[q]?
def mLoc (ls : Array Slot) (n : Nat) (loc : List (Option Value)) : Prop := ls.size = n ∧ lv_wf ls ∧ loc.length = n ∧ ∀ (i : Nat) (v : Value), loc[i]? = some (some v) → ls[i]? = some (.val v)
theorem gt_some {Θ : mW} {h : mH} {q : Nat} {e : mE} (hg : gt Θ h q = some e) : mwB Θ ≤ q ∧ h[q - mwB Θ]? = some e := by
  unfold gt at hg
  split at hg
  · rename_i h1; exact ⟨h1, hg⟩
  · cases hg
theorem mRel.get {Θ : mW} {h : mH} {H : Heap} {q : Nat} {e : mE} (hR : mRel Θ h H) (hg : gt Θ h q = some e) : va_at (mwD Θ) mCl (q, mcv Θ e) H := by
  obtain ⟨h1, h2⟩ := gt_some hg
  have h3 := hR.2 _ _ h2
  rw [show mwB Θ + (q - mwB Θ) = q by omega] at h3
  exact h3
theorem pt_length {Θ : mW} {h : mH} {q : Nat} {e : mE} : (pt Θ h q e).length = h.length := by simp [pt]
theorem gt_lt {Θ : mW} {h : mH} {q : Nat} {e : mE} (hg : gt Θ h q = some e) : q - mwB Θ < h.length := by
  obtain ⟨-, h2⟩ := gt_some hg
  exact (List.getElem?_eq_some_iff.mp h2).1
theorem mRel.put {Θ : mW} {h : mH} {H H1 : Heap} {q : Nat} {e0 e : mE} (hR : mRel Θ h H) (hg : gt Θ h q = some e0) (hz : H1.size = H.size) (ho : ∀ x : Nat, x ≠ q → H1[x]? = H[x]?) (he : va_at (mwD Θ) mCl (q, mcv Θ e) H1) : mRel Θ (pt Θ h q e) H1 := by
  obtain ⟨h1, h2⟩ := gt_some hg
  have hl := gt_lt hg
  refine ⟨by rw [hz, pt_length]; exact hR.1, fun k x hk => ?_⟩
  unfold pt at hk
  by_cases hq : k = q - mwB Θ
  · subst hq
    rw [List.getElem?_set_self hl] at hk
    cases hk
    rw [show mwB Θ + (q - mwB Θ) = q by omega]
    exact he
  · rw [List.getElem?_set_ne (fun z => hq z.symm)] at hk
    exact (hR.2 k x hk).kept (ho _ (by show mwB Θ + k ≠ q; omega))
theorem mRel.push {Θ : mW} {h : mH} {H H1 : Heap} {e : mE} (hR : mRel Θ h H) (hz : H1.size = H.size + 1) (ho : ∀ x : Nat, x < H.size → H1[x]? = H[x]?) (he : va_at (mwD Θ) mCl (H.size, mcv Θ e) H1) : mRel Θ (h ++ [e]) H1 := by
  refine ⟨by rw [hz, hR.1, List.length_append, List.length_singleton]; omega, fun k x hk => ?_⟩
  by_cases hq : k < h.length
  · rw [List.getElem?_append_left hq] at hk
    exact (hR.2 k x hk).kept (ho _ (by show mwB Θ + k < _; rw [hR.1]; omega))
  · have hl := (List.getElem?_eq_some_iff.mp hk).1
    rw [List.length_append, List.length_singleton] at hl
    rw [List.getElem?_append_right (by omega), show k - h.length = 0 by omega] at hk
    cases hk
    rw [show mwB Θ + k = H.size by rw [hR.1]; omega]
    exact he
theorem sum_set : ∀ (l : List Nat) (k : Nat) (a : Nat), l[k]? = some a → (l.set k a).sum = l.sum
  | [], k, a, h => by simp at h
  | x :: l, 0, a, h => by simp at h; simp [h]
  | x :: l, k + 1, a, h => by
    simp only [List.getElem?_cons_succ] at h
    simp only [List.set_cons_succ, List.sum_cons, sum_set l k a h]
theorem msz_pt {Θ : mW} {h : mH} {q : Nat} {e0 e : mE} (hg : gt Θ h q = some e0) (he : msz1 e = msz1 e0) : msz (pt Θ h q e) = msz h := by
  obtain ⟨-, h2⟩ := gt_some hg
  unfold msz pt
  rw [List.map_set]
  exact sum_set _ _ _ (by rw [List.getElem?_map, h2, he]; rfl)
theorem msz_app {h : mH} {e : mE} : msz (h ++ [e]) = msz h + msz1 e := by simp [msz]
theorem gt_pt {Θ : mW} {h : mH} {q x : Nat} {e0 e : mE} (hg : gt Θ h q = some e0) : gt Θ (pt Θ h q e) x = if x = q then some e else gt Θ h x := by
  obtain ⟨h1, h2⟩ := gt_some hg
  have hl := gt_lt hg
  unfold gt pt
  by_cases hx : x = q
  · subst hx
    rw [if_pos h1, if_pos rfl, List.getElem?_set_self hl]
  · rw [if_neg hx]
    by_cases hb : mwB Θ ≤ x
    · rw [if_pos hb, if_pos hb, List.getElem?_set_ne (by omega)]
    · rw [if_neg hb, if_neg hb]
theorem gt_app {Θ : mW} {h : mH} {q : Nat} {e e1 : mE} (hg : gt Θ h q = some e) : gt Θ (h ++ [e1]) q = some e := by
  obtain ⟨h1, h2⟩ := gt_some hg
  have hl := gt_lt hg
  unfold gt
  rw [if_pos h1, List.getElem?_append_left hl, h2]
theorem gt_new {Θ : mW} {h : mH} {e : mE} : gt Θ (h ++ [e]) (mwB Θ + h.length) = some e := by
  unfold gt
  rw [if_pos (Nat.le_add_right _ _), show mwB Θ + h.length - mwB Θ = h.length by omega, List.getElem?_append_right (Nat.le_refl _)]
  simp
/-! locals -/
def mPs (i : Nat) : List (Option Value) → List (Nat × Value)
  | [] => []
  | none :: r => mPs (i + 1) r
  | some v :: r => (i, v) :: mPs (i + 1) r
theorem mPs_mem : ∀ (l : List (Option Value)) (i j : Nat) (v : Value), l[j]? = some (some v) ↔ (i + j, v) ∈ mPs i l
  | [], i, j, v => by simp [mPs]
  | none :: r, i, 0, v => by
    simp only [List.getElem?_cons_zero, mPs, Nat.add_zero]
    constructor
    · intro h; cases h
    · intro h
      exfalso
      have : ∀ (l : List (Option Value)) (k : Nat) (q : Nat × Value), q ∈ mPs k l → k ≤ q.1 := by
        intro l
        induction l with
        | nil => intro k q h; simp [mPs] at h
        | cons a l ih =>
          intro k q h
          cases a with
          | none => exact Nat.le_of_succ_le (ih (k + 1) q h)
          | some v => 
            rcases List.mem_cons.mp h with rfl | h
            · exact Nat.le_refl _
            · exact Nat.le_of_succ_le (ih (k + 1) q h)
      have := this r (i + 1) _ h
      simp at this
      omega
  | none :: r, i, j + 1, v => by
    simp only [List.getElem?_cons_succ, mPs]
    rw [mPs_mem r (i + 1) j v, show i + 1 + j = i + (j + 1) by omega]
  | some w :: r, i, 0, v => by
    simp only [List.getElem?_cons_zero, mPs, Nat.add_zero, List.mem_cons]
    constructor
    · intro h; cases h; exact Or.inl rfl
    · rintro (h | h)
      · cases h; rfl
      · exfalso
        have : ∀ (l : List (Option Value)) (k : Nat) (q : Nat × Value), q ∈ mPs k l → k ≤ q.1 := by
          intro l
          induction l with
          | nil => intro k q h; simp [mPs] at h
          | cons a l ih =>
            intro k q h
            cases a with
            | none => exact Nat.le_of_succ_le (ih (k + 1) q h)
            | some v => 
              rcases List.mem_cons.mp h with rfl | h
              · exact Nat.le_refl _
              · exact Nat.le_of_succ_le (ih (k + 1) q h)
        have := this r (i + 1) _ h
        simp at this
        omega
  | some w :: r, i, j + 1, v => by
    simp only [List.getElem?_cons_succ, mPs, List.mem_cons]
    rw [mPs_mem r (i + 1) j v, show i + 1 + j = i + (j + 1) by omega]
    constructor
    · intro h; exact Or.inr h
    · rintro (h | h)
      · cases h
      · exact h
theorem mLoc.has {ls : Array Slot} {n : Nat} {loc : List (Option Value)} (h : mLoc ls n loc) : lv_has ls n (mPs 0 loc) := by
  refine ⟨h.1, h.2.1, fun q hq => h.2.2.2 q.1 q.2 ?_⟩
  rw [mPs_mem loc 0 q.1 q.2, Nat.zero_add]
  exact hq
theorem mLoc.at {ls : Array Slot} {n : Nat} {loc : List (Option Value)} (h : mLoc ls n loc) {i : Nat} {v : Value} (hl : loc[i]? = some (some v)) : ls[i]? = some (.val v) := h.2.2.2 i v hl
/-- what a store at i leaves of the place before it -/
def mSt1 (loc : List (Option Value)) (i : Nat) : Bool := match i with
  | 0 => true
  | j + 1 => match loc[j]? with
    | some (some v) => v.category == 1
    | _ => true
theorem mLoc.set1 {ls ls' : Array Slot} {n i : Nat} {v : Value} {loc : List (Option Value)} (h : mLoc ls n loc) (hi : i < n) (hk : mSt1 loc i = true) (h' : lv_has ls' n ((i, v) :: (mPs 0 loc).filter (fun q => !(q.1 == i) && !(q.1 + 1 == i && q.2.category == 2)))) : mLoc ls' n (loc.set i (some v)) := by
  refine ⟨h'.1, h'.2.1, by rw [List.length_set]; exact h.2.2.1, fun j w hj => ?_⟩
  by_cases hq : j = i
  · subst hq
    rw [List.getElem?_set_self (by rw [h.2.2.1]; exact hi)] at hj
    cases hj
    exact h'.2.2 (j, v) List.mem_cons_self
  · rw [List.getElem?_set_ne (fun z => hq z.symm)] at hj
    refine h'.2.2 (j, w) (List.mem_cons_of_mem _ (List.mem_filter.mpr ⟨?_, ?_⟩))
    · have := (mPs_mem loc 0 j w).mp hj
      rwa [Nat.zero_add] at this
    · simp only [Bool.and_eq_true, Bool.not_eq_true', beq_eq_false_iff_ne, ne_eq, Bool.and_eq_false_iff]
      refine ⟨hq, ?_⟩
      by_cases h2 : j + 1 = i
      · subst h2
        simp only [mSt1, hj] at hk
        right
        have h3 : w.category = 1 := by simpa using hk
        omega
      · exact Or.inl h2
theorem mLoc.set2 {ls ls' : Array Slot} {n i : Nat} {v : Value} {loc : List (Option Value)} (h : mLoc ls n loc) (hi : i + 1 < n) (hk : mSt1 loc i = true) (h' : lv_has ls' n ((i, v) :: (mPs 0 loc).filter (fun q => !(q.1 == i) && (!(q.1 == i + 1) && !(q.1 + 1 == i && q.2.category == 2))))) : mLoc ls' n ((loc.set i (some v)).set (i + 1) none) := by
  refine ⟨h'.1, h'.2.1, by rw [List.length_set, List.length_set]; exact h.2.2.1, fun j w hj => ?_⟩
  by_cases hq1 : j = i + 1
  · subst hq1
    rw [List.getElem?_set_self (by rw [List.length_set, h.2.2.1]; exact hi)] at hj
    cases hj
  rw [List.getElem?_set_ne (fun z => hq1 z.symm)] at hj
  by_cases hq : j = i
  · subst hq
    rw [List.getElem?_set_self (by rw [h.2.2.1]; omega)] at hj
    cases hj
    exact h'.2.2 (j, v) List.mem_cons_self
  · rw [List.getElem?_set_ne (fun z => hq z.symm)] at hj
    refine h'.2.2 (j, w) (List.mem_cons_of_mem _ (List.mem_filter.mpr ⟨?_, ?_⟩))
    · have := (mPs_mem loc 0 j w).mp hj
      rwa [Nat.zero_add] at this
    · simp only [Bool.and_eq_true, Bool.not_eq_true', beq_eq_false_iff_ne, ne_eq, Bool.and_eq_false_iff]
      refine ⟨hq, hq1, ?_⟩
      by_cases h2 : j + 1 = i
      · subst h2
        simp only [mSt1, hj] at hk
        right
        have h3 : w.category = 1 := by simpa using hk
        omega
      · exact Or.inl h2
/-! the judgements -/
def mQc (Θ : mW) (o : mO) (h' : mH) : Array Value → State → Outcome → State → Prop := fun _ st oc t => (∃ v, o = .inl v ∧ oc = .returned v) ∧ mRel Θ h' t.heap ∧ mOld Θ st.heap t.heap
def mXC (Θ : mW) (o : mO) (h' : mH) : String → State → State → Prop := fun E st t => (∃ n, o = .inr n ∧ E = mEx n) ∧ mRel Θ h' t.heap ∧ mOld Θ st.heap t.heap
def mPc (Θ : mW) (as : List Value) (h : mH) : Array Value → State → Prop := fun a U => a = as.toArray ∧ mRel Θ h U.heap ∧ mKS Θ U U.heap
def mRm (d : Nat) (h h' : mH) : Room := { frames := d, cells := h'.length - h.length, slots := msz h' - msz h, locals := 80 * d }
def mMet (l : Launch) (Θ : mW) (d : Nat) (M : mM) (as : List Value) (h : mH) (o : mO) (h' : mH) : Prop :=
  h.length ≤ h'.length ∧ msz h ≤ msz h' ∧ vx_Met l (mMy M) (mWs M) (mRm d h h') (mPc Θ as h) (mQc Θ o h') (mXC Θ o h') (h'.length - h.length) (msz h' - msz h) (mwA Θ)
def mCtx (l : Launch) (Θ : mW) (d : Nat) (M : mM) (p : Program) (R : Room) (s : State) (m : MethodId) (args : Array Value) (meth : Method) (c : Code) : Prop :=
  l.flags = flags0 ∧ p.tables.exec = Jvm.exec ∧ c.code = mMc M ∧ meth.sig.returnType = mMr M ∧ c.maxLocals = mMl M ∧ (∀ w ∈ gtbl, w.before args s = true) ∧ s.vm.findClass (mMy M).cls = some m.cls ∧ meth.locks = false ∧ meth.name = (mMy M).name ∧ c.exceptionTable.toList = tableOf (mMh M) ∧ mKS Θ s s.heap ∧ d ≤ R.frames ∧ 80 * d ≤ R.locals
def mX (l : Launch) (Θ : mW) (d : Nat) (M : mM) (pc : Nat) (loc : List (Option Value)) (stk : List Value) (h : mH) (o : mO) (h' : mH) : Prop :=
  h.length ≤ h'.length ∧ msz h ≤ msz h' ∧ ∀ (p : Program) (e : Env) (R : Room) (s : State) (m : MethodId) (args : Array Value) (below : List Frame) (meth : Method) (c : Code), mCtx l Θ d M p R s m args meth c →
    ∀ (H : Heap) (locs : List Loc) (cells slots mc ms : Nat) (ls : Array Slot), mRel Θ h H → va_S (mwA Θ) s.heap H locs → mLoc ls (mMl M) loc → cells + (h'.length - h.length) = mc → slots + (msz h' - msz h) = ms → mc ≤ R.cells → ms ≤ R.slots →
      W p l e R s m args below meth c H locs cells slots (vx_MQ below (mQc Θ o h') (mXC Θ o h') args s mc ms (mwA Θ)) (F0 m pc ls stk)
