/-! methods: from a walk of the body; calls -/
theorem mArgs_mem : ∀ (as : List Value) (i j : Nat) (v : Value), as.all (fun v => v.category == 1) = true → as[j]? = some v → (i + j, v) ∈ lv_args i as
  | [], i, j, v, _, h => by simp at h
  | a :: as, i, 0, v, _, h => by
    simp only [List.getElem?_cons_zero, Option.some.injEq] at h
    subst h
    exact List.mem_cons_self
  | a :: as, i, j + 1, v, hc, h => by
    simp only [List.all_cons, Bool.and_eq_true, beq_iff_eq] at hc
    simp only [List.getElem?_cons_succ] at h
    have h1 := mArgs_mem as (i + 1) j v hc.2 h
    have h2 : (if a.category = 2 then i + 2 else i + 1) = i + 1 := if_neg (by omega)
    rw [lv_args, h2, show i + (j + 1) = i + 1 + j by omega]
    exact List.mem_cons_of_mem _ h1
theorem lg_sl_length : ∀ (as : List Value), as.all (fun v => v.category == 1) = true → (lg_sl as).length = as.length
  | [], _ => rfl
  | a :: as, hc => by
    simp only [List.all_cons, Bool.and_eq_true, beq_iff_eq] at hc
    have := lg_sl_length as hc.2
    unfold lg_sl at this ⊢
    rw [List.flatMap_cons, if_neg (by omega), List.length_append, this]
    simp
    omega
def mLoc0 (as : List Value) (n : Nat) : List (Option Value) := as.map some ++ List.replicate (n - as.length) none
theorem mLoc0_ok {ls : Array Slot} {as : List Value} {n : Nat} (hc : as.all (fun v => v.category == 1) = true) (hn : as.length ≤ n) (h : lv_has ls n (lv_args 0 as)) : mLoc ls n (mLoc0 as n) := by
  refine ⟨h.1, h.2.1, by simp [mLoc0]; omega, fun i v hi => ?_⟩
  unfold mLoc0 at hi
  by_cases hl : i < as.length
  · rw [List.getElem?_append_left (by simpa using hl), List.getElem?_map] at hi
    cases e : as[i]? with
    | none => rw [e] at hi; cases hi
    | some w =>
      rw [e] at hi
      have h9 : w = v := Option.some.inj (Option.some.inj hi)
      subst h9
      have h1 := mArgs_mem as 0 i w hc e
      rw [Nat.zero_add] at h1
      exact h.2.2 _ h1
  · rw [List.getElem?_append_right (by simpa using hl), List.getElem?_replicate] at hi
    split at hi <;> cases hi
section CR
variable {l : Launch} {Θ : mW} {d : Nat} {M : mM} {pc : Nat} {loc : List (Option Value)} {stk : List Value} {h : mH} {o : mO} {h' : mH} {Q : mO → mH → Prop}
theorem mMet.of {as : List Value} (hfl : l.flags = flags0) (hy : plainName (mMy M).cls = true) (hc : as.all (fun v => v.category == 1) = true) (hn : as.length ≤ mMl M) (hX : mX l Θ d M 0 (mLoc0 as (mMl M)) [] h o h') : mMet l Θ d M as h o h' := by
  have hlg : (lg_sl as).length ≤ mMl M := by rw [lg_sl_length as hc]; exact hn
  refine ⟨hX.1, hX.2.1, ?_⟩
  by_cases hh : (mMh M).isEmpty = true
  · refine vx_ofW (cc := mMc M) (maxL := mMl M) (ret := mMr M) (ws' := gtbl) hy (by rw [mWs, mMw, if_pos hh]) ?_
    intro p e s m args below meth c s₁ B hml ht hP
    obtain ⟨rfl, hR, hK⟩ := hP
    have hts := atoms_spec (ws := mWs M) B.pre
    have hl := lv_entry as (n := mMl M) hlg
    rw [lg_entry_eq]
    have htab : c.exceptionTable.toList = tableOf (mMh M) := by
      rw [List.isEmpty_iff.mp hh]
      cases e9 : c.exceptionTable.toList with
      | nil => rfl
      | cons a b => exact absurd (ht a (by rw [e9]; exact List.mem_cons_self)) id
    exact hX.2.2 p e _ s m _ below meth c ⟨hfl, B.exec, B.bytes, B.returns, hml, fun w hw => hts w (List.mem_cons_of_mem _ hw), findClass_of_methodNamed B.named, B.notSynchronized, (name_of_methodNamed B.named B.method).1, htab, hK, Nat.le_refl _, Nat.le_refl _⟩ s.heap [] 0 0 _ _ _ hR va_S.rf (mLoc0_ok hc hn hl) (Nat.zero_add _) (Nat.zero_add _) (Nat.le_refl _) (Nat.le_refl _)
  · have hw0 : mMw M = .codeWith (mMy M) (mMc M) (mMl M) (mMr M) (mMh M) := by rw [mMw, if_neg hh]
    refine vx_ofWH (cc := mMc M) (maxL := mMl M) (ret := mMr M) (hh := mMh M) (ws' := gtbl) hy (by rw [mWs, hw0]) ?_
    intro p e s m args below meth c s₁ B hml hP
    obtain ⟨rfl, hR, hK⟩ := hP
    have hts := atoms_spec (ws := mWs M) B.pre
    have hl := lv_entry as (n := mMl M) hlg
    rw [lg_entry_eq]
    have hcw := hts _ List.mem_cons_self
    rw [hw0] at hcw
    have htab : c.exceptionTable.toList = tableOf (mMh M) := vx_table (x := mMy M) B hcw
    exact hX.2.2 p e _ s m _ below meth c ⟨hfl, B.exec, B.bytes, B.returns, hml, fun w hw => hts w (List.mem_cons_of_mem _ hw), findClass_of_methodNamed B.named, B.notSynchronized, (name_of_methodNamed B.named B.method).1, htab, hK, Nat.le_refl _, Nat.le_refl _⟩ s.heap [] 0 0 _ _ _ hR va_S.rf (mLoc0_ok hc hn hl) (Nat.zero_add _) (Nat.zero_add _) (Nat.le_refl _) (Nat.le_refl _)
/-- a method's contract with a post -/
def mT (l : Launch) (Θ : mW) (d : Nat) (M : mM) (as : List Value) (h : mH) (Q : mO → mH → Prop) : Prop := ∃ (o : mO) (h' : mH), Q o h' ∧ mMet l Θ d M as h o h'
theorem mT.of {as : List Value} (hfl : l.flags = flags0) (hy : plainName (mMy M).cls = true) (hc : as.all (fun v => v.category == 1) = true) (hn : as.length ≤ mMl M) (hX : mZ l Θ d M 0 (mLoc0 as (mMl M)) [] h Q) : mT l Θ d M as h Q := by
  obtain ⟨o, h', q, x⟩ := hX
  exact ⟨o, h', q, mMet.of hfl hy hc hn x⟩
theorem mT.mono {as : List Value} {Q' : mO → mH → Prop} (x : mT l Θ d M as h Q) (hq : ∀ o h', Q o h' → Q' o h') : mT l Θ d M as h Q' := by
  obtain ⟨o, h', q, x⟩ := x
  exact ⟨o, h', hq _ _ q, x⟩
theorem mZ.mono {Q' : mO → mH → Prop} (x : mZ l Θ d M pc loc stk h Q) (hq : ∀ o h', Q o h' → Q' o h') : mZ l Θ d M pc loc stk h Q' := by
  obtain ⟨o, h', q, x⟩ := x
  exact ⟨o, h', hq _ _ q, x⟩
theorem mPc_blind {as : List Value} : FrameBlind (mPc Θ as h) := fun a U g mk q => ⟨q.1, q.2.1, mKS.same (u := U) (U := U.calling g mk a) rfl q.2.2⟩
theorem mMet.met {v : Option Value} {as : List Value} {dj : Nat} {M' : mM} {h1 : mH} (hM : mMet l Θ dj M' as h (.inl v) h1) : Met l (mMy M') (mWs M') (mRm dj h h1) (mPc Θ as h) (mQc Θ (.inl v) h1) (h1.length - h.length) (msz h1 - msz h) (mwA Θ) := by
  refine MetFree.mono hM.2.2 (fun _ _ h => h) (fun _ _ _ _ _ h => h) (fun a s o s' _ q => ?_)
  rcases q with q | ⟨q, -, E, ce, L, ⟨⟨n, hn, -⟩, -⟩, -⟩
  · exact q
  · cases hn
/-- a run that comes back, among those that come back or throw -/
theorem va_Run.vx {p : Program} {e : Env} {R : Room} {s : State} {m : MethodId} {args : Array Value} {below : List Frame} {meth : Method} {c : Code} {H : Heap} {locs : List Loc} {cells slots mc ms : Nat} {g : JFrame} {rest : List Value} {Qa : State → Outcome → State → Prop} {XC : String → State → State → Prop} {free : Addr → Prop}
    (hr : va_Run p l e R s m args below meth c H locs cells slots mc ms g rest Qa free) : vx_Run p l e R s m args below meth c H locs cells slots mc ms g rest Qa XC free := fun T hT X => Or.inl (hr T hT X)
/-- a call's run, whatever its kind -/
def mCall (l : Launch) (Θ : mW) (d : Nat) (M : mM) (pc : Nat) (loc : List (Option Value)) (stk rest : List Value) (h : mH) (o1 : mO) (h1 : mH) : Prop :=
  h.length ≤ h1.length ∧ msz h ≤ msz h1 ∧ ∀ (p : Program) (e : Env) (R : Room) (s : State) (m : MethodId) (args : Array Value) (below : List Frame) (meth : Method) (c : Code) (H : Heap) (locs : List Loc) (cells slots : Nat) (ls : Array Slot), mCtx l Θ d M p R s m args meth c → mRel Θ h H → va_S (mwA Θ) s.heap H locs → mLoc ls (mMl M) loc → cells + (h1.length - h.length) ≤ R.cells → slots + (msz h1 - msz h) ≤ R.slots →
    ∃ a, vx_Run p l e R s m args below meth c H locs cells slots (h1.length - h.length) (msz h1 - msz h) (F0 m pc ls stk) rest (mQc Θ o1 h1 a) (mXC Θ o1 h1) (mwA Θ)
theorem mCall_S {st0 t : State} {T' : State} {H : Heap} {s : State} {locs L : List Loc} {h1 : mH} (hR : mRel Θ h H) (hlen : h.length ≤ h1.length) (hR1 : mRel Θ h1 t.heap) (hO : mOld Θ st0.heap t.heap) (h0 : st0.heap = H) (e1 : T'.heap = t.heap) (hS : va_S (mwA Θ) s.heap H locs) (hL : ∀ q ∈ L, mwA Θ q.base) : va_S (mwA Θ) s.heap T'.heap (locs ++ L) := by
  refine ⟨Nat.le_trans hS.1 (by rw [e1, hR1.1, hR.1]; omega), fun q h1 h2 => ?_, fun q hq => ?_⟩
  · rw [e1, hO q (Nat.not_le.mp h2), h0]
    exact hS.2.1 q h1 h2
  · rcases List.mem_append.mp hq with h | h
    · exact hS.2.2 q h
    · exact hL q h
theorem mX.callR {v : Option Value} {rest : List Value} {h1 : mH} (hc : mCall l Θ d M pc loc stk rest h (.inl v) h1) (k : mX l Θ d M (pc + 3) loc (v.toList ++ rest) h1 o h') : mX l Θ d M pc loc stk h o h' := by
  refine ⟨Nat.le_trans hc.1 k.1, Nat.le_trans hc.2.1 k.2.1, fun p e R s m args below meth c C H locs cells slots mc ms ls hR hS hL e1 e2 e3 e4 => ?_⟩
  have c1 := hc.1
  have c2 := hc.2.1
  have k1 := k.1
  have k2 := k.2.1
  intro T hT X
  obtain ⟨a9, hr⟩ := hc.2.2 p e R s m args below meth c H locs cells slots ls C hR hS hL (by omega) (by omega)
  rcases hr T hT X with ⟨w, st₀, t, T', L, h0, X', hL', g1, g2, ⟨⟨w', q1, q2⟩, hR1, hO⟩, st⟩ | ⟨q, st₀, t, T', L, E, ce, h0, X', hL', g1, g2, ⟨⟨n, q1, -⟩, -⟩, -⟩
  · cases q1
    cases q2
    obtain ⟨t2, a1, b1⟩ := k.2.2 p e R s m args below meth c C T'.heap (locs ++ L) _ _ mc ms ls (by rw [g1]; exact hR1) (mCall_S hR hc.1 hR1 hO h0 g1 hS hL') hL (by omega) (by omega) e3 e4 T' rfl X'
    exact ⟨t2, st t2 a1, b1⟩
  · cases q1
/-- thrown out of a method without handlers -/
theorem mX.callX {n : Nat} {rest : List Value} {h1 : mH} (hh : mMh M = []) (hc : mCall l Θ d M pc loc stk rest h (.inr n) h1) : mX l Θ d M pc loc stk h (.inr n) h1 := by
  refine ⟨hc.1, hc.2.1, fun p e R s m args below meth c C H locs cells slots mc ms ls hR hS hL e1 e2 e3 e4 => ?_⟩
  intro T hT X
  obtain ⟨a9, hr⟩ := hc.2.2 p e R s m args below meth c H locs cells slots ls C hR hS hL (by omega) (by omega)
  rcases hr T hT X with ⟨w, st₀, t, T', L, h0, X', hL', g1, g2, ⟨⟨w', q1, q2⟩, hR1, hO⟩, st⟩ | ⟨q, st₀, t, T', L, E, ce, h0, X', hL', g1, g2, ⟨⟨n', q1, hE⟩, hR1, hO⟩, hce, hcv, hcl, st⟩
  · cases q1
  · have hSS := mCall_S hR hc.1 hR1 hO h0 g1 hS hL'
    have hout : vx_W p l e R s m args below meth c T'.heap (locs ++ L) (cells + (h1.length - h.length)) (slots + (msz h1 - msz h)) (vx_MQ below (mQc Θ (.inr n) h1) (mXC Θ (.inr n) h1) args s mc ms (mwA Θ)) (F0 m pc ls rest) q := by
      refine vx_outP C.own C.locks (fun z hz => ?_) (by rw [g1]; exact hce) hcv hcl (fun t9 ht9 _ => ⟨⟨n', q1, hE⟩, by rw [ht9, g1]; exact hR1, fun x hx => ?_⟩) hSS.2.2 (Nat.le_of_eq e1) (Nat.le_of_eq e2)
      · rw [C.table, hh] at hz
        cases hz
      · rw [ht9]
        exact hSS.2.1 x (Nat.lt_of_lt_of_le hx C.ks.2.2.2.2.2.2.2.2.2.2) (Nat.not_le.mpr hx)
    obtain ⟨t2, a1, b1⟩ := hout T' rfl X'
    exact ⟨t2, st.trans a1, b1⟩
/-- which handler takes a class of exceptions -/
def mCatch (M : mM) (pc n hpc : Nat) : Prop := ∃ (pre : List (Nat × Nat × Nat × Nat)) (x : Nat × Nat × Nat × Nat) (suf : List (Nat × Nat × Nat × Nat)) (nm : String), mMh M = pre ++ x :: suf ∧ covers ⟨x.1, x.2.1, x.2.2.1, x.2.2.2⟩ pc = true ∧ x.2.2.2 ≠ 0 ∧ x.2.2.1 = hpc ∧ Cond.classLink (mMy M).cls x.2.2.2 nm ∈ gtbl ∧ Cond.castable (mEx n) nm ∈ mNs ∧
  ∀ z ∈ pre, z.2.2.2 ≠ 0 ∧ ∃ nm', Cond.classLink (mMy M).cls z.2.2.2 nm' ∈ gtbl ∧ (mEx n, nm') ∈ mNc
theorem mX.callC {n hpc : Nat} {rest : List Value} {h1 : mH} (hcat : mCatch M pc n hpc) (hc : mCall l Θ d M pc loc stk rest h (.inr n) h1) (k : ∀ q : Nat, mX l Θ d M hpc loc [.ref q] h1 o h') : mX l Θ d M pc loc stk h o h' := by
  have k1 := (k 0).1
  have k2 := (k 0).2.1
  have c1 := hc.1
  have c2 := hc.2.1
  refine ⟨Nat.le_trans hc.1 k1, Nat.le_trans hc.2.1 k2, fun p e R s m args below meth c C H locs cells slots mc ms ls hR hS hL e1 e2 e3 e4 => ?_⟩
  intro T hT X
  obtain ⟨a9, hr⟩ := hc.2.2 p e R s m args below meth c H locs cells slots ls C hR hS hL (by omega) (by omega)
  rcases hr T hT X with ⟨w, st₀, t, T', L, h0, X', hL', g1, g2, ⟨⟨w', q1, q2⟩, hR1, hO⟩, st⟩ | ⟨q, st₀, t, T', L, E, ce, h0, X', hL', g1, g2, ⟨⟨n', q1, hE⟩, hR1, hO⟩, hce, hcv, hcl, st⟩
  · cases q1
  · cases q1
    subst hE
    obtain ⟨pre, x, suf, nm, hs1, hs2, hs3, hs4, hs5, hs6, hs7⟩ := hcat
    subst hs4
    have hSS := mCall_S hR hc.1 hR1 hO h0 g1 hS hL'
    have hin := vx_catch (p := p) (l := l) (e := e) (R := R) (m := m) (args := args) (below := below) (meth := meth) (c := c) (s := s) (H := T'.heap) (locs := locs ++ L) (cells := cells + (h1.length - h.length)) (slots := slots + (msz h1 - msz h)) (ls := ls) (rest := rest) (pc := pc) C.own (tableOf pre) ⟨x.1, x.2.1, x.2.2.1, x.2.2.2⟩ (tableOf suf) (by rw [C.table, hs1]; simp [tableOf]) (fun z hz => by
      obtain ⟨z0, hz0, rfl⟩ := List.mem_map.mp hz
      obtain ⟨y1, nm', y2, y3⟩ := hs7 z0 hz0
      exact Or.inr ⟨y1, nm', C.hts _ y2, C.ks.2.2.2.2.2.2.2.1 _ y3⟩) hs2 hs3 (C.hts _ hs5) ((C.ks.2.2.2.2.2.2.1 _ hs6).use rfl) (by rw [g1]; exact hce) hcv hcl ((k q).2.2 p e R s m args below meth c C T'.heap (locs ++ L) _ _ mc ms ls (by rw [g1]; exact hR1) hSS hL (by omega) (by omega) e3 e4)
    obtain ⟨t2, a1, b1⟩ := hin T' rfl X'
    exact ⟨t2, st.trans a1, b1⟩
/-! the kinds of calls -/
/-- what is asked of a callee -/
def mCd (M' : mM) (n : Nat) : Prop := (mMy M').cls ≠ "java/lang/invoke/MethodHandle" ∧ (mMy M').cls ≠ "java/lang/invoke/VarHandle" ∧ (parseMethodDescriptor (mMy M').desc).map (fun d => d.parameters.length) = some n ∧ mMl M' ≤ 60 ∧ mMw M' ∈ gtbl ∧ Cond.initialized (mMy M').cls ∈ gtbl
theorem mWs_good {M' : mM} {n : Nat} (h : mCd M' n) : GoodIn gtbl (mWs M') := fun w hw => by
  rcases List.mem_cons.mp hw with rfl | hw
  · exact gtbl_good _ h.2.2.2.2.1
  · exact gtbl_good _ hw
def mRecv (Θ : mW) (h : mH) (b : Nat) (C0 : String) : Prop := (∃ (ci : Nat) (fs : List Value) (r : vw_C), gt Θ h b = some (oB ci fs) ∧ mCl[ci]? = some r ∧ r.1 = C0) ∨ ∃ j, (j, C0) ∈ mOO ∧ b = mwad Θ j
theorem mRecv.cell {b : Nat} {C0 : String} {s : State} {H : Heap} {locs : List Loc} (hr : mRecv Θ h b C0) (hK : mKS Θ s s.heap) (hR : mRel Θ h H) (hS : va_S (mwA Θ) s.heap H locs) : ∃ cell : Cell, H[b]? = some cell ∧ cell.vm.isStatics = false ∧ s.vm.findClass C0 = some cell.cls := by
  rcases hr with ⟨ci, fs, r, hg, hc, rfl⟩ | ⟨j, hj, rfl⟩
  · exact va_recv hK.1 (hR.P hg) (q0 := 0) hc rfl
  · obtain ⟨cell, h1, h2, h3, -⟩ := (hK.2.2.2.2.1 _ hj).kept hS.2.1
    exact ⟨cell, h1, h2, h3⟩
theorem mPre_U {as : List Value} {H : Heap} {s : State} {locs : List Loc} (C : mKS Θ s s.heap) (hR : mRel Θ h H) (hS : va_S (mwA Θ) s.heap H locs) : ∀ U : State, U.heap = H → s.WarmedH U.vm → mPc Θ as h as.toArray U := fun U hU hW => ⟨rfl, by rw [hU]; exact hR, by
  rw [hU]
  exact mKS.moved hW (C.kept hS.1 (fun a ha => hS.2.1 a (Nat.lt_of_lt_of_le ha C.2.2.2.2.2.2.2.2.2.2) (Nat.not_le.mpr ha)))⟩
theorem mHead {M' : mM} {n dj : Nat} {h1 : mH} {R : Room} (hd9 : mCd M' n) (hdj : dj + 1 ≤ d) (h1' : d ≤ R.frames) (h2 : 80 * d ≤ R.locals) : (mRm dj h h1).frames + 1 ≤ R.frames ∧ 8 + (mMl M' + 11) + (mRm dj h h1).locals ≤ R.locals := by
  have := hd9.2.2.2.1
  constructor
  · show dj + 1 ≤ R.frames; omega
  · show 8 + (mMl M' + 11) + 80 * dj ≤ R.locals; omega
theorem mLenF {M' : mM} {n : Nat} (hd9 : mCd M' n) : ∀ sig, parseMethodDescriptor (mMy M').desc = some sig → n = sig.parameters.length := fun sig h => by
  have h2 := hd9.2.2.1
  rw [h] at h2
  exact (Option.some.inj h2).symm
theorem mRoom8 {ls : Array Slot} {m : MethodId} {rest : List Value} (h8 : (rest.map fun v => v.category).sum ≤ 8) : 2 * (F0 m pc ls stk).monitorRoom + (rest.map fun v => v.category).sum ≤ 8 := lv_room h8
/-- static -/
def mCs (own : String) (i : Nat) (M' : mM) : Prop := Cond.methodLink own i (mMy M') ∈ gtbl ∧ Cond.static (mMy M') ∈ gtbl
theorem mCall.st {i n dj : Nat} {M' : mM} {As rest : List Value} {o1 : mO} {h1 : mH} (hd : decode (mMc M) pc = .ok (.invokestatic i, 3)) (hd9 : mCd M' n) (hw : mCs (mMy M).cls i M') (hn : As.length = n) (hst : stk = As.reverse ++ rest) (h8 : (rest.map fun v => v.category).sum ≤ 8) (hdj : dj + 1 ≤ d) (hM : mMet l Θ dj M' As h o1 h1) : mCall l Θ d M pc loc stk rest h o1 h1 := by
  refine ⟨hM.1, hM.2.1, fun p e R s m args below meth c H locs cells slots ls C hR hS hL e1 e2 => ⟨As.toArray, ?_⟩⟩
  have hH := mHead (h := h) (h1 := h1) hd9 hdj C.frames C.room
  by_cases hh : (mMh M').isEmpty = true
  · have hcw : mMw M' = .code (mMy M') (mMc M') (mMl M') (mMr M') := by rw [mMw, if_pos hh]
    have hin : Cond.code (mMy M') (mMc M') (mMl M') (mMr M') ∈ mWs M' := by rw [mWs, hcw]; exact List.mem_cons_self
    exact vx_runS (As := As) (rest := rest) ⟨C.exec, C.bytes, C.maxl, C.own, C.hts⟩ hM.2.2 ⟨⟨rfl, rfl, hH.1, hH.2, pay_in C.hts (mWs_good hd9), hin, C.hts _ (hcw ▸ hd9.2.2.2.2.1), C.hts _ hd9.2.2.2.2.2, ⟨hd9.1, hd9.2.1⟩, mLenF hd9, C.hts _ hw.1⟩, C.hts _ hw.2⟩ ⟨mPc_blind, mPre_U C.ks hR hS⟩ rfl hn hL.1 hst (mRoom8 h8) hd ⟨e1, e2⟩
  · have hcw : mMw M' = .codeWith (mMy M') (mMc M') (mMl M') (mMr M') (mMh M') := by rw [mMw, if_neg hh]
    have hin : Cond.codeWith (mMy M') (mMc M') (mMl M') (mMr M') (mMh M') ∈ mWs M' := by rw [mWs, hcw]; exact List.mem_cons_self
    exact vx_runSX (As := As) (rest := rest) ⟨C.exec, C.bytes, C.maxl, C.own, C.hts⟩ hM.2.2 ⟨⟨rfl, rfl, hH.1, hH.2, pay_in C.hts (mWs_good hd9), hin⟩, C.hts _ (hcw ▸ hd9.2.2.2.2.1), C.hts _ hd9.2.2.2.2.2, ⟨hd9.1, hd9.2.1⟩, mLenF hd9, C.hts _ hw.1, C.hts _ hw.2⟩ ⟨mPc_blind, mPre_U C.ks hR hS⟩ rfl hn hL.1 hst (mRoom8 h8) hd ⟨e1, e2⟩
/-- virtual -/
def mCv (own : String) (i : Nat) (M' : mM) (C0 : String) : Prop := Cond.methodLink own i (mMy M') ∈ gtbl ∧ Cond.instanceMethod (mMy M') ∈ gtbl ∧ Cond.selects C0 (mMy M') (mMy M') ∈ gtbl
theorem mCall.vi {i n dj b : Nat} {M' : mM} {C0 : String} {As rest : List Value} {o1 : mO} {h1 : mH} (hd : decode (mMc M) pc = .ok (.invokevirtual i, 3)) (hd9 : mCd M' n) (hw : mCv (mMy M).cls i M' C0) (hrc : mRecv Θ h b C0) (hn : As.length = n) (hst : stk = As.reverse ++ .ref b :: rest) (h8 : (rest.map fun v => v.category).sum ≤ 8) (hdj : dj + 1 ≤ d) (hM : mMet l Θ dj M' (.ref b :: As) h o1 h1) : mCall l Θ d M pc loc stk rest h o1 h1 := by
  refine ⟨hM.1, hM.2.1, fun p e R s m args below meth c H locs cells slots ls C hR hS hL e1 e2 => ⟨(Value.ref b :: As).toArray, ?_⟩⟩
  have hH := mHead (h := h) (h1 := h1) hd9 hdj C.frames C.room
  have hcell := hrc.cell C.ks hR hS
  by_cases hh : (mMh M').isEmpty = true
  · have hcw : mMw M' = .code (mMy M') (mMc M') (mMl M') (mMr M') := by rw [mMw, if_pos hh]
    have hin : Cond.code (mMy M') (mMc M') (mMl M') (mMr M') ∈ mWs M' := by rw [mWs, hcw]; exact List.mem_cons_self
    exact vx_runV (C := C0) (b := b) (As := As) (rest := rest) ⟨C.exec, C.bytes, C.maxl, C.own, C.hts⟩ hM.2.2 ⟨⟨rfl, rfl, hH.1, hH.2, pay_in C.hts (mWs_good hd9), hin, C.hts _ (hcw ▸ hd9.2.2.2.2.1), C.hts _ hd9.2.2.2.2.2, ⟨hd9.1, hd9.2.1⟩, mLenF hd9, C.hts _ hw.1⟩, C.hts _ hw.2.1, C.hts _ hw.2.2⟩ ⟨mPc_blind, hcell, mPre_U C.ks hR hS⟩ rfl hn hL.1 hst (mRoom8 h8) hd ⟨e1, e2⟩
  · have hcw : mMw M' = .codeWith (mMy M') (mMc M') (mMl M') (mMr M') (mMh M') := by rw [mMw, if_neg hh]
    have hin : Cond.codeWith (mMy M') (mMc M') (mMl M') (mMr M') (mMh M') ∈ mWs M' := by rw [mWs, hcw]; exact List.mem_cons_self
    exact vx_runVX (C := C0) (b := b) (As := As) (rest := rest) ⟨C.exec, C.bytes, C.maxl, C.own, C.hts⟩ hM.2.2 ⟨⟨rfl, rfl, hH.1, hH.2, pay_in C.hts (mWs_good hd9), hin⟩, C.hts _ (hcw ▸ hd9.2.2.2.2.1), C.hts _ hd9.2.2.2.2.2, ⟨hd9.1, hd9.2.1⟩, mLenF hd9, C.hts _ hw.1, C.hts _ hw.2.1, C.hts _ hw.2.2⟩ ⟨mPc_blind, hcell, mPre_U C.ks hR hS⟩ rfl hn hL.1 hst (mRoom8 h8) hd ⟨e1, e2⟩
/-- a constructor -/
def mCi (own : String) (i : Nat) (M' : mM) : Prop := (Cond.methodLink own i (mMy M') ∈ gtbl ∨ ∃ host, Cond.methodLinkNest own i (mMy M') host ∈ mNs) ∧ Cond.instanceMethod (mMy M') ∈ gtbl ∧ (mMy M').name = "<init>" ∧ mMr M' = none ∧ mMh M' = []
theorem mCall.ini {i n dj b : Nat} {M' : mM} {As rest : List Value} {h1 : mH} (hd : decode (mMc M) pc = .ok (.invokespecial i, 3)) (hd9 : mCd M' n) (hw : mCi (mMy M).cls i M') (hn : As.length = n) (hst : stk = As.reverse ++ .ref b :: rest) (h8 : (rest.map fun v => v.category).sum ≤ 8) (hdj : dj + 1 ≤ d) (hM : mMet l Θ dj M' (.ref b :: As) h (.inl none) h1) : mCall l Θ d M pc loc stk rest h (.inl none) h1 := by
  refine ⟨hM.1, hM.2.1, fun p e R s m args below meth c H locs cells slots ls C hR hS hL e1 e2 => ⟨(Value.ref b :: As).toArray, ?_⟩⟩
  have hH := mHead (h := h) (h1 := h1) hd9 hdj C.frames C.room
  obtain ⟨hw1, hw2, hw3, hw4, hw5⟩ := hw
  have hcw : mMw M' = .code (mMy M') (mMc M') (mMl M') none := by rw [mMw, hw5, hw4]; rfl
  have hin : Cond.code (mMy M') (mMc M') (mMl M') none ∈ mWs M' := by rw [mWs, hcw]; exact List.mem_cons_self
  rcases hw1 with hw1 | ⟨host, hw1⟩
  · exact (va_runI (b := b) (As := As) (rest := rest) ⟨C.exec, C.bytes, C.maxl, C.own, C.hts⟩ hM.met ⟨⟨rfl, rfl, hH.1, hH.2, pay_in C.hts (mWs_good hd9), hin, C.hts _ (hcw ▸ hd9.2.2.2.2.1), C.hts _ hd9.2.2.2.2.2, ⟨hd9.1, hd9.2.1⟩, mLenF hd9, C.hts _ hw1⟩, hw3, C.hts _ hw2⟩ ⟨mPc_blind, mPre_U C.ks hR hS⟩ rfl hn hL.1 hst (mRoom8 h8) hd ⟨e1, e2⟩).vx
  · exact (va_runIN (host := host) (b := b) (As := As) (rest := rest) ⟨C.exec, C.bytes, C.maxl, C.own, C.hts⟩ hM.met ⟨⟨⟨rfl, rfl, hH.1, hH.2, pay_in C.hts (mWs_good hd9), hin⟩, C.hts _ (hcw ▸ hd9.2.2.2.2.1), C.hts _ hd9.2.2.2.2.2, ⟨hd9.1, hd9.2.1⟩, mLenF hd9, (C.ks.2.2.2.2.2.2.1 _ hw1).use rfl⟩, hw3, C.hts _ hw2⟩ ⟨mPc_blind, mPre_U C.ks hR hS⟩ rfl hn hL.1 hst (mRoom8 h8) hd ⟨e1, e2⟩).vx
/-- a method that is called under another class's name -/
def mCu (own : String) (i : Nat) (M' : mM) (C0 xcls owner : String) : Prop := Cond.methodLink own i ⟨xcls, (mMy M').name, (mMy M').desc⟩ ∈ gtbl ∧ Cond.sameMethod xcls owner (mMy M').name (mMy M').desc ∈ gtbl ∧ Cond.selects C0 ⟨xcls, (mMy M').name, (mMy M').desc⟩ (mMy M') ∈ gtbl ∧ Cond.instanceMethod (mMy M') ∈ gtbl ∧ owner = (mMy M').cls ∧ mMh M' = []
theorem mCall.un {i n dj b : Nat} {M' : mM} {C0 xcls owner : String} {As rest : List Value} {v : Option Value} {h1 : mH} (hd : decode (mMc M) pc = .ok (.invokevirtual i, 3)) (hd9 : mCd M' n) (hw : mCu (mMy M).cls i M' C0 xcls owner) (hrc : mRecv Θ h b C0) (hn : As.length = n) (hst : stk = As.reverse ++ .ref b :: rest) (h8 : (rest.map fun v => v.category).sum ≤ 8) (hdj : dj + 1 ≤ d) (hM : mMet l Θ dj M' (.ref b :: As) h (.inl v) h1) : mCall l Θ d M pc loc stk rest h (.inl v) h1 := by
  refine ⟨hM.1, hM.2.1, fun p e R s m args below meth c H locs cells slots ls C hR hS hL e1 e2 => ⟨(Value.ref b :: As).toArray, ?_⟩⟩
  have hH := mHead (h := h) (h1 := h1) hd9 hdj C.frames C.room
  have hcell := hrc.cell C.ks hR hS
  obtain ⟨w1, w2, w3, w4, rfl, w5⟩ := hw
  have hcw : mMw M' = .code (mMy M') (mMc M') (mMl M') (mMr M') := by rw [mMw, w5]; rfl
  have hin : Cond.code (mMy M') (mMc M') (mMl M') (mMr M') ∈ mWs M' := by rw [mWs, hcw]; exact List.mem_cons_self
  exact (va_runU (x := ⟨xcls, (mMy M').name, (mMy M').desc⟩) (C := C0) (owner := (mMy M').cls) (b := b) (As := As) (rest := rest) ⟨C.exec, C.bytes, C.maxl, C.own, C.hts⟩ hM.met ⟨⟨rfl, rfl, hH.1, hH.2, pay_in C.hts (mWs_good hd9), hin⟩, C.hts _ (hcw ▸ hd9.2.2.2.2.1), C.hts _ hd9.2.2.2.2.2, ⟨hd9.1, hd9.2.1⟩, mLenF hd9, C.hts _ w1, C.hts _ w2, va_Decl.of (C.hts _ w4) (C.hts _ (hcw ▸ hd9.2.2.2.2.1)), C.hts _ w3, C.hts _ w4⟩ ⟨mPc_blind, hcell, mPre_U C.ks hR hS⟩ rfl hn hL.1 hst (mRoom8 h8) hd ⟨e1, e2⟩).vx
/-- super -/
def mCp (own : String) (i : Nat) (M' : mM) : Prop := Cond.methodLink own i (mMy M') ∈ gtbl ∧ Cond.sameMethod (mMy M').cls (mMy M').cls (mMy M').name (mMy M').desc ∈ gtbl ∧ Cond.superclass own (mMy M').cls ∈ gtbl ∧ Cond.instanceMethod (mMy M') ∈ gtbl ∧ (mMy M').name ≠ "<init>" ∧ mMh M' = []
theorem mCall.su {i n dj b ci : Nat} {M' : mM} {fs As rest : List Value} {v : Option Value} {h1 : mH} (hd : decode (mMc M) pc = .ok (.invokespecial i, 3)) (hd9 : mCd M' n) (hw : mCp (mMy M).cls i M') (hg : gt Θ h b = some (oB ci fs)) (hn : As.length = n) (hst : stk = As.reverse ++ .ref b :: rest) (h8 : (rest.map fun v => v.category).sum ≤ 8) (hdj : dj + 1 ≤ d) (hM : mMet l Θ dj M' (.ref b :: As) h (.inl v) h1) : mCall l Θ d M pc loc stk rest h (.inl v) h1 := by
  refine ⟨hM.1, hM.2.1, fun p e R s m args below meth c H locs cells slots ls C hR hS hL e1 e2 => ⟨(Value.ref b :: As).toArray, ?_⟩⟩
  have hH := mHead (h := h) (h1 := h1) hd9 hdj C.frames C.room
  obtain ⟨w1, w2, w3, w4, w6, w5⟩ := hw
  have hcw : mMw M' = .code (mMy M') (mMc M') (mMl M') (mMr M') := by rw [mMw, w5]; rfl
  have hin : Cond.code (mMy M') (mMc M') (mMl M') (mMr M') ∈ mWs M' := by rw [mWs, hcw]; exact List.mem_cons_self
  obtain ⟨r, hr, -⟩ := hR.get hg
  have hcell := mRecv.cell (Or.inl ⟨ci, fs, r, hg, hr, rfl⟩) C.ks hR hS
  exact (va_runSU (C := r.1) (cC := (mwD Θ).1 ci) (b := b) (As := As) (rest := rest) (C.ks.1.1 ci r hr).2 ⟨C.exec, C.bytes, C.maxl, C.own, C.hts⟩ hM.met ⟨⟨rfl, rfl, hH.1, hH.2, pay_in C.hts (mWs_good hd9), hin⟩, C.hts _ w1, C.hts _ w2, C.hts _ w3, C.hts _ w4, C.hts _ hd9.2.2.2.2.2, C.hts _ (hcw ▸ hd9.2.2.2.2.1), w6, mLenF hd9⟩ ⟨mPc_blind, hcell, mPre_U C.ks hR hS⟩ rfl hn hL.1 hst (mRoom8 h8) hd ⟨e1, e2⟩).vx
/-- Object's constructor -/
theorem z_objInit {i b : Nat} (hd : decode (mMc M) pc = .ok (.invokespecial i, 3)) (h1 : Cond.methodLink (mMy M).cls i objectInit ∈ gtbl) (h2 : Cond.instanceMethod objectInit ∈ gtbl) (h3 : Cond.code objectInit ⟨#[0xb1]⟩ 1 none ∈ gtbl) (h8 : (stk.map fun v => v.category).sum ≤ 8) (hdj : 1 ≤ d) (k : mZ l Θ d M (pc + 3) loc stk h Q) : mZ l Θ d M pc loc (.ref b :: stk) h Q :=
  mZ.read (loc2 := loc) (fun p e R s m args below meth c H locs cells slots Q ls C hR hL hS kk => by
    have hf := C.frames
    have hr := C.room
    have h9 : 2 * (F0 m pc ls (.ref b :: stk)).monitorRoom + (stk.map fun v => v.category).sum ≤ 8 := mRoom8 h8
    refine W.objInit C.exec C.bytes C.own (C.hts _ h1) (C.hts _ h2) (C.hts _ h3) rfl (by rw [C.maxl]; exact hL.1) rfl hd (by omega) (by omega) kk) k
end CR
