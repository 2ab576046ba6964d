/-! throws and calls over the judgement -/
theorem mChk_in {ws : List Cond} (qs : List (Nat × Nat)) (h : (decide (qs.map mAt = ws.map some) && ws.all (fun w => goodWord w || mIsN w)) = true) {w : Cond} (hw : w ∈ ws) : w ∈ gtbl ∨ w ∈ mNs := by
  rw [Bool.and_eq_true] at h
  have h1 := of_decide_eq_true h.1
  have h2 : some w ∈ qs.map mAt := by rw [h1]; exact List.mem_map.mpr ⟨w, hw, rfl⟩
  obtain ⟨q, -, hq⟩ := List.mem_map.mp h2
  have h3 := List.all_eq_true.mp h.2 w hw
  rw [Bool.or_eq_true] at h3
  rcases h3 with h3 | h3
  · exact Or.inl (List.mem_filter.mpr ⟨mAt_in hq, h3⟩)
  · exact Or.inr (List.mem_filter.mpr ⟨mAt_in hq, h3⟩)
/-- what is known of a class of exceptions -/
def mExc (n ix : Nat) (rx : ByteArray) : Prop := decode rx 0 = .ok (.aload_n 0, 1) ∧ decode rx 1 = .ok (.aload_n 1, 1) ∧ decode rx 2 = .ok (.invokespecial ix, 3) ∧ decode rx 5 = .ok (.return_, 1) ∧ Bundle.fit (mEx n) = true ∧ Cond.initialized (mEx n) ∈ gtbl ∧ (∀ w ∈ (mTw (mEx n) ix rx).filter vx_no, w ∈ gtbl ∨ w ∈ mNs) ∧ mCl[n]? = some (mEx n, mTe, 0)
theorem mIsN_tab {w : Cond} (h : mIsN w = true) : w.onTables = true := by
  cases w <;> first | rfl | cases h
theorem mBefore {Θ : mW} {s : State} {H : Heap} {args : Array Value} (hts : ∀ w ∈ gtbl, w.before args s = true) (hK : mKS Θ s H) {w : Cond} (h : w ∈ gtbl ∨ w ∈ mNs) : w.before args s = true := by
  rcases h with h | h
  · exact hts w h
  · exact (hK.2.2.2.2.2.2.1 w h).use (mIsN_tab (List.mem_filter.mp h).2)
theorem mOt {w : Cond} (h : w ∈ gtbl ∨ w ∈ mNs) : vx_ot w = true := by
  unfold vx_ot
  rw [Bool.or_eq_true]
  rcases h with h | h
  · exact Or.inr (List.mem_filter.mp h).2
  · exact Or.inl (mIsN_tab (List.mem_filter.mp h).2)
theorem mTall_in {own X : String} {ic ix : Nat} {rx : ByteArray} {w : Cond} (h : w ∈ (mTall own ic X ix rx).filter vx_no) : w = .methodLink own ic (Bundle.initS X) ∨ w ∈ (mTw X ix rx).filter vx_no := by
  obtain ⟨h1, h2⟩ := List.mem_filter.mp h
  rcases List.mem_append.mp h1 with h3 | h3
  · exact Or.inr (List.mem_filter.mpr ⟨h3, h2⟩)
  · simp only [List.mem_cons, List.not_mem_nil, or_false] at h3
    rcases h3 with h3 | h3 | h3
    · exact Or.inl h3
    · subst h3; simp [vx_no] at h2
    · subst h3; simp [vx_no] at h2
section ZC
variable {l : Launch} {Θ : mW} {d : Nat} {M : mM} {pc : Nat} {loc : List (Option Value)} {stk : List Value} {h : mH} {o : mO} {h' : mH} {Q : mO → mH → Prop}
theorem mTraces (hfl : l.flags = flags0) : l.stackTraces = false := by
  unfold Launch.stackTraces
  rw [hfl]
  decide +kernel
theorem mX.throwX {n : Nat} (hn : mCl[n]? = some (mEx n, mTe, 0))
    (hs : ∀ (p : Program) (e : Env) (R : Room) (s : State) (m : MethodId) (args : Array Value) (below : List Frame) (meth : Method) (c : Code) (H : Heap) (locs : List Loc) (cells slots mc ms : Nat) (ls : Array Slot), mCtx l Θ d M p R s m args meth c → mLoc ls (mMl M) loc → va_S (mwA Θ) s.heap H locs → cells + 1 ≤ R.cells → slots + 6 ≤ R.slots → cells + 1 ≤ mc → slots + 6 ≤ ms →
      (∀ t : State, s.vm.Alike t.vm → t.heap.size = H.size + 1 → (∀ q : Nat, q < H.size → t.heap[q]? = H[q]?) → (∃ ce : Cell, t.heap[H.size]? = some ce ∧ ce.vm = .none ∧ s.vm.findClass (mEx n) = some ce.cls) → mXC Θ (.inr n) (h ++ [oB n []]) (mEx n) s t) →
      W p l e R s m args below meth c H locs cells slots (vx_MQ below (mQc Θ (.inr n) (h ++ [oB n []])) (mXC Θ (.inr n) (h ++ [oB n []])) args s mc ms (mwA Θ)) (F0 m pc ls stk)) : mX l Θ d M pc loc stk h (.inr n) (h ++ [oB n []]) := by
  have hz : msz1 (oB n []) = 6 := rfl
  refine ⟨by simp, by rw [msz_app]; omega, fun p e R s m args below meth c C H locs cells slots mc ms ls hR hS hL e1 e2 e3 e4 => ?_⟩
  rw [show (h ++ [oB n []]).length - h.length = 1 by simp] at e1
  rw [show msz (h ++ [oB n []]) - msz h = 6 by rw [msz_app, hz]; omega] at e2
  refine hs p e R s m args below meth c H locs cells slots mc ms ls C hL hS (by omega) (by omega) (by omega) (by omega) (fun t hA hsz hsame hce => ?_)
  obtain ⟨ce, g1, g2, g3⟩ := hce
  refine ⟨⟨n, rfl, rfl⟩, hR.push hsz hsame ⟨_, hn, ce, g1, ?_, g2, fun k hk => absurd hk (Nat.not_lt_zero k)⟩, fun q hq => ?_⟩
  · exact Option.some.inj (g3.symm.trans (C.ks.1.1 n _ hn).2.1)
  · rw [hsame q (by rw [hR.1]; omega)]
    exact hS.2.1 q (Nat.lt_of_lt_of_le hq C.ks.2.2.2.2.2.2.2.2.2.2) (Nat.not_le.mpr hq)
theorem z_throw {ik is ic n j ix : Nat} {tx : String} {rx : ByteArray} (hh : mMh M = []) (d0 : decode (mMc M) pc = .ok (.new ik, 3)) (d3 : decode (mMc M) (pc + 3) = .ok (.dup, 1)) (d4 : decode (mMc M) (pc + 4) = .ok (.ldc is, 2)) (d6 : decode (mMc M) (pc + 6) = .ok (.invokespecial ic, 3)) (d9 : decode (mMc M) (pc + 9) = .ok (.athrow, 1))
    (hE : mExc n ix rx) (w1 : Cond.classLink (mMy M).cls ik (mEx n) ∈ gtbl) (w2 : Cond.methodLink (mMy M).cls ic (Bundle.initS (mEx n)) ∈ gtbl) (hs : (j, (mMy M).cls, is, tx) ∈ mSR) (h8 : (stk.map fun v => v.category).sum ≤ 8) (hd : 6 ≤ d) (hq : Q (.inr n) (h ++ [oB n []])) : mZ l Θ d M pc loc stk h Q := by
  obtain ⟨x0, x1, x2, x5, hf, hi, hw, hc⟩ := hE
  refine ⟨_, _, hq, mX.throwX hc (fun p e R s m args below meth c H locs cells slots mc ms ls C hL hS c1 c2 c3 c4 hx => ?_)⟩
  have hfr := C.frames
  have hrm := C.room
  have hall : ∀ w ∈ (mTall (mMy M).cls ic (mEx n) ix rx).filter vx_no, w ∈ gtbl ∨ w ∈ mNs := fun w h9 => by
    rcases mTall_in h9 with rfl | h9
    · exact Or.inl w2
    · exact hw w h9
  refine my_throwS C.exec C.bytes (mTraces C.1) x0 x1 x2 x5 C.own hf (C.hts _ w1) (C.hts _ hi) (C.ks.2.2.2.2.2.1 _ hs) (fun w h9 => mBefore C.hts C.ks (hall w h9)) (fun w h9 => ?_) C.ks.2.2.2.2.2.2.2.2.1 C.ks.2.2.2.2.2.2.2.2.2.1.1 hS (hL.1.trans C.maxl.symm) d0 d3 d4 d6 d9 (fun x hx => by rw [C.table, hh] at hx; cases hx) (by omega) (by omega) c1 c2 C.locks hx hS.2.2 c3 c4
  rcases List.mem_cons.mp h9 with rfl | h9
  · exact mOt (Or.inl w1)
  · rcases List.mem_cons.mp h9 with rfl | h9
    · exact mOt (Or.inl hi)
    · exact mOt (hall w h9)
theorem z_throwW {ik is ic n j ix : Nat} {tx : String} {rx : ByteArray} (hh : mMh M = []) (d0 : decode (mMc M) pc = .ok (.new ik, 3)) (d3 : decode (mMc M) (pc + 3) = .ok (.dup, 1)) (d4 : decode (mMc M) (pc + 4) = .ok (.ldc_w is, 3)) (d7 : decode (mMc M) (pc + 7) = .ok (.invokespecial ic, 3)) (d10 : decode (mMc M) (pc + 10) = .ok (.athrow, 1))
    (hE : mExc n ix rx) (w1 : Cond.classLink (mMy M).cls ik (mEx n) ∈ gtbl) (w2 : Cond.methodLink (mMy M).cls ic (Bundle.initS (mEx n)) ∈ gtbl) (hs : (j, (mMy M).cls, is, tx) ∈ mSR) (h8 : (stk.map fun v => v.category).sum ≤ 8) (hd : 6 ≤ d) (hq : Q (.inr n) (h ++ [oB n []])) : mZ l Θ d M pc loc stk h Q := by
  obtain ⟨x0, x1, x2, x5, hf, hi, hw, hc⟩ := hE
  refine ⟨_, _, hq, mX.throwX hc (fun p e R s m args below meth c H locs cells slots mc ms ls C hL hS c1 c2 c3 c4 hx => ?_)⟩
  have hfr := C.frames
  have hrm := C.room
  have hall : ∀ w ∈ (mTall (mMy M).cls ic (mEx n) ix rx).filter vx_no, w ∈ gtbl ∨ w ∈ mNs := fun w h9 => by
    rcases mTall_in h9 with rfl | h9
    · exact Or.inl w2
    · exact hw w h9
  refine my_throwSW C.exec C.bytes (mTraces C.1) x0 x1 x2 x5 C.own hf (C.hts _ w1) (C.hts _ hi) (C.ks.2.2.2.2.2.1 _ hs) (fun w h9 => mBefore C.hts C.ks (hall w h9)) (fun w h9 => ?_) C.ks.2.2.2.2.2.2.2.2.1 C.ks.2.2.2.2.2.2.2.2.2.1.1 hS (hL.1.trans C.maxl.symm) d0 d3 d4 d7 d10 (fun x hx => by rw [C.table, hh] at hx; cases hx) (by omega) (by omega) c1 c2 C.locks hx hS.2.2 c3 c4
  rcases List.mem_cons.mp h9 with rfl | h9
  · exact mOt (Or.inl w1)
  · rcases List.mem_cons.mp h9 with rfl | h9
    · exact mOt (Or.inl hi)
    · exact mOt (hall w h9)
/-- where a callee threw: on to the caller, or to a handler -/
def mThr (l : Launch) (Θ : mW) (d : Nat) (M : mM) (pc : Nat) (loc : List (Option Value)) (n : Nat) (h1 : mH) (Q : mO → mH → Prop) : Prop :=
  (mMh M = [] ∧ Q (.inr n) h1) ∨ ∃ (hpc : Nat) (o0 : mO) (h0 : mH), mCatch M pc n hpc ∧ Q o0 h0 ∧ ∀ q : Nat, mZ l Θ d M hpc loc [.ref q] h1 (fun o h' => o = o0 ∧ h' = h0)
theorem mZ.call {rest : List Value} {Qc : mO → mH → Prop} (hT : ∃ (o1 : mO) (h1 : mH), Qc o1 h1 ∧ mCall l Θ d M pc loc stk rest h o1 h1) (k : ∀ v h1, Qc (.inl v) h1 → mZ l Θ d M (pc + 3) loc (v.toList ++ rest) h1 Q) (kx : ∀ n h1, Qc (.inr n) h1 → mThr l Θ d M pc loc n h1 Q) : mZ l Θ d M pc loc stk h Q := by
  obtain ⟨o1, h1, q, hc⟩ := hT
  rcases o1 with v | n
  · obtain ⟨o, h', q2, x⟩ := k v h1 q
    exact ⟨o, h', q2, mX.callR hc x⟩
  · rcases kx n h1 q with ⟨hh, q2⟩ | ⟨hpc, o0, h0, hcat, q2, hz⟩
    · exact ⟨_, _, q2, mX.callX hh hc⟩
    · refine ⟨o0, h0, q2, mX.callC hcat hc (fun q9 => ?_)⟩
      obtain ⟨o, h', ⟨rfl, rfl⟩, x⟩ := hz q9
      exact x
theorem z_static {i n dj : Nat} {M' : mM} {As rest : List Value} {Qc : mO → mH → Prop} (hd : decode (mMc M) pc = .ok (.invokestatic i, 3)) (hd9 : mCd M' n) (hw : mCs (mMy M).cls i M') (hn : As.length = n) (hst : stk = As.reverse ++ rest) (h8 : (rest.map fun v => v.category).sum ≤ 8) (hdj : dj + 1 ≤ d) (hT : mT l Θ dj M' As h Qc)
    (k : ∀ v h1, Qc (.inl v) h1 → mZ l Θ d M (pc + 3) loc (v.toList ++ rest) h1 Q) (kx : ∀ n h1, Qc (.inr n) h1 → mThr l Θ d M pc loc n h1 Q) : mZ l Θ d M pc loc stk h Q := by
  obtain ⟨o1, h1, q, x⟩ := hT
  exact mZ.call ⟨o1, h1, q, mCall.st hd hd9 hw hn hst h8 hdj x⟩ k kx
theorem z_virtual {i n dj b : Nat} {M' : mM} {C0 : String} {As rest : List Value} {Qc : mO → mH → Prop} (hd : decode (mMc M) pc = .ok (.invokevirtual i, 3)) (hd9 : mCd M' n) (hw : mCv (mMy M).cls i M' C0) (hrc : mRecv Θ h b C0) (hn : As.length = n) (hst : stk = As.reverse ++ .ref b :: rest) (h8 : (rest.map fun v => v.category).sum ≤ 8) (hdj : dj + 1 ≤ d) (hT : mT l Θ dj M' (.ref b :: As) h Qc)
    (k : ∀ v h1, Qc (.inl v) h1 → mZ l Θ d M (pc + 3) loc (v.toList ++ rest) h1 Q) (kx : ∀ n h1, Qc (.inr n) h1 → mThr l Θ d M pc loc n h1 Q) : mZ l Θ d M pc loc stk h Q := by
  obtain ⟨o1, h1, q, x⟩ := hT
  exact mZ.call ⟨o1, h1, q, mCall.vi hd hd9 hw hrc hn hst h8 hdj x⟩ k kx
theorem z_init {i n dj b : Nat} {M' : mM} {As rest : List Value} {Qc : mO → mH → Prop} (hd : decode (mMc M) pc = .ok (.invokespecial i, 3)) (hd9 : mCd M' n) (hw : mCi (mMy M).cls i M') (hn : As.length = n) (hst : stk = As.reverse ++ .ref b :: rest) (h8 : (rest.map fun v => v.category).sum ≤ 8) (hdj : dj + 1 ≤ d) (hT : mT l Θ dj M' (.ref b :: As) h Qc)
    (hv : ∀ o h1, Qc o h1 → o = .inl none) (k : ∀ h1, Qc (.inl none) h1 → mZ l Θ d M (pc + 3) loc rest h1 Q) : mZ l Θ d M pc loc stk h Q := by
  obtain ⟨o1, h1, q, x⟩ := hT
  obtain rfl := hv _ _ q
  obtain ⟨o, h', q2, x2⟩ := k h1 q
  exact ⟨o, h', q2, mX.callR (mCall.ini hd hd9 hw hn hst h8 hdj x) x2⟩
theorem z_under {i n dj b : Nat} {M' : mM} {C0 xcls owner : String} {As rest : List Value} {Qc : mO → mH → Prop} (hd : decode (mMc M) pc = .ok (.invokevirtual i, 3)) (hd9 : mCd M' n) (hw : mCu (mMy M).cls i M' C0 xcls owner) (hrc : mRecv Θ h b C0) (hn : As.length = n) (hst : stk = As.reverse ++ .ref b :: rest) (h8 : (rest.map fun v => v.category).sum ≤ 8) (hdj : dj + 1 ≤ d) (hT : mT l Θ dj M' (.ref b :: As) h Qc)
    (hv : ∀ n h1, ¬ Qc (.inr n) h1) (k : ∀ v h1, Qc (.inl v) h1 → mZ l Θ d M (pc + 3) loc (v.toList ++ rest) h1 Q) : mZ l Θ d M pc loc stk h Q := by
  obtain ⟨o1, h1, q, x⟩ := hT
  rcases o1 with v | n9
  · obtain ⟨o, h', q2, x2⟩ := k v h1 q
    exact ⟨o, h', q2, mX.callR (mCall.un hd hd9 hw hrc hn hst h8 hdj x) x2⟩
  · exact absurd q (hv _ _)
theorem z_super {i n dj b ci : Nat} {M' : mM} {fs As rest : List Value} {Qc : mO → mH → Prop} (hd : decode (mMc M) pc = .ok (.invokespecial i, 3)) (hd9 : mCd M' n) (hw : mCp (mMy M).cls i M') (hg : gt Θ h b = some (oB ci fs)) (hn : As.length = n) (hst : stk = As.reverse ++ .ref b :: rest) (h8 : (rest.map fun v => v.category).sum ≤ 8) (hdj : dj + 1 ≤ d) (hT : mT l Θ dj M' (.ref b :: As) h Qc)
    (hv : ∀ n h1, ¬ Qc (.inr n) h1) (k : ∀ v h1, Qc (.inl v) h1 → mZ l Θ d M (pc + 3) loc (v.toList ++ rest) h1 Q) : mZ l Θ d M pc loc stk h Q := by
  obtain ⟨o1, h1, q, x⟩ := hT
  rcases o1 with v | n9
  · obtain ⟨o, h', q2, x2⟩ := k v h1 q
    exact ⟨o, h', q2, mX.callR (mCall.su hd hd9 hw hg hn hst h8 hdj x) x2⟩
  · exact absurd q (hv _ _)
end ZC
