/-! some rows more -/
section MR
variable {l : Launch} {Θ : mW} {d : Nat} {M : mM} {pc : Nat} {loc : List (Option Value)} {stk : List Value} {h : mH} {o : mO} {h' : mH} {Q : mO → mH → Prop}
theorem z_ldcfw {i : Nat} {v : UInt32} (hd : decode (mMc M) pc = .ok (.ldc_w i, 3)) (hw : Cond.constantFloat (mMy M).cls i v ∈ gtbl) (k : mZ l Θ d M (pc + 3) loc (.float v :: stk) h Q) : mZ l Θ d M pc loc stk h Q :=
  mZ.pure (fun p e R s m args below meth c H locs cells slots Q ls C hL hS kk => by
    intro T hT X
    obtain ⟨t, a, b⟩ := kk ls hL T hT X
    refine ⟨t, ?_, b⟩
    obtain ⟨k9, cf, hk, hcf, hcp⟩ := Cond.constantFloat_spec C.own (C.hts _ hw)
    obtain ⟨k', hk', he⟩ := X.warmed.alike.2.2 _ _ hk
    have hdg : decode c.code pc = .ok (.ldc_w i, 3) := by rw [C.bytes]; exact hd
    have hexec := C.exec
    jvm_step X.here [hexec, hdg, ldc_w.wp_float (s := T) (f := F0 m pc ls stk) X.here.top hk' (by rw [he]; exact hcf) hcp]
    exact a) k
theorem z_oldgetN {i j : Nat} {C0 n0 d0 host : String} {v : Value} (hd : decode (mMc M) pc = .ok (.getfield i, 3)) (hw : Cond.fieldLinkNest (mMy M).cls i C0 n0 d0 host ∈ mNs) (hq : (j, C0, n0, d0, v) ∈ mOF Θ) (k : mZ l Θ d M (pc + 3) loc (v :: stk) h Q) : mZ l Θ d M pc loc (.ref (mwad Θ j) :: stk) h Q :=
  mZ.pure (fun p e R s m args below meth c H locs cells slots Q ls C hL hS kk => by
    obtain ⟨cf, k9, fi, f, cell, h1, h2, h3, h4, h5, h6⟩ := (C.ks.2.2.2.1 _ hq).kept hS.2.1
    exact va_Wgetf (host := host) C.exec C.bytes C.own ((C.ks.2.2.2.2.2.2.1 _ hw).use rfl) h1 h2 h3 h4 (v := v) h5 rfl rfl hd (kk ls hL)) k
theorem z_getstaticN {i : Nat} {C0 n0 d0 host : String} {v : Value} (hd : decode (mMc M) pc = .ok (.getstatic i, 3)) (hw : Cond.fieldLinkNest (mMy M).cls i C0 n0 d0 host ∈ mNs) (hq : (C0, n0, d0, v) ∈ mSt Θ) (k : mZ l Θ d M (pc + 3) loc (v :: stk) h Q) : mZ l Θ d M pc loc stk h Q :=
  mZ.pure (fun p e R s m args below meth c H locs cells slots Q ls C hL hS kk => va_getsN (host := host) C.exec C.bytes (C.ks.2.1 _ hq) hS C.own ((C.ks.2.2.2.2.2.2.1 _ hw).use rfl) (fun _ h9 => h9) hd (kk ls hL)) k
/-- a private method is selected in a subclass too -/
theorem my_selP {s : State} {args : Array Value} {C0 : String} {x0 y0 y : MethodName} (hy : y.cls ≠ "java/lang/invoke/MethodHandle" ∧ y.cls ≠ "java/lang/invoke/VarHandle") (h0 : y0.cls = y.cls) (hsel : (Cond.selects C0 x0 y0).before args s = true) (hpriv : (Cond.privateMethod y).before args s = true) (hinst : (Cond.instanceMethod y).before args s = true) : (Cond.selects C0 y y).before args s = true := by
  obtain ⟨c, r, m, hc, hr, hm, hs, mk, hmk, hni⟩ := Cond.selects_spec hsel
  obtain ⟨mY, methM, hnamed, hmethM, -, -⟩ := Cond.instanceMethod_spec hinst
  have hfound := State.methodFound?_of_named hnamed hy
  have hcls : mY.cls = m.cls := Option.some.inj ((findClass_of_methodNamed hnamed).symm.trans (h0 ▸ findClass_of_methodNamed hm))
  have hsel2 : selectMethod {} s.vm c mY = .method mY := selectMethod_private hmethM (Cond.privateMethod_at hpriv mY methM hnamed hmethM)
  simp only [Cond.before, Cond.holds, Cond.value, hc, hfound, hnamed, hsel2, hcls, hmk]
  simp
  exact hni
/-- a private method of a superclass -/
def mCq (own : String) (i : Nat) (M' : mM) (C0 : String) (x0 y0 : MethodName) : Prop := Cond.methodLink own i (mMy M') ∈ gtbl ∧ Cond.sameMethod (mMy M').cls (mMy M').cls (mMy M').name (mMy M').desc ∈ gtbl ∧ y0.cls = (mMy M').cls ∧ Cond.selects C0 x0 y0 ∈ gtbl ∧ Cond.privateMethod (mMy M') ∈ gtbl ∧ Cond.instanceMethod (mMy M') ∈ gtbl ∧ mMh M' = []
theorem mCall.pr {i n dj b : Nat} {M' : mM} {C0 : String} {x0 y0 : MethodName} {As rest : List Value} {v : Option Value} {h1 : mH} (hd : decode (mMc M) pc = .ok (.invokevirtual i, 3)) (hd9 : mCd M' n) (hw : mCq (mMy M).cls i M' C0 x0 y0) (hrc : mRecv Θ h b C0) (hn : As.length = n) (hst : stk = As.reverse ++ .ref b :: rest) (h8 : (rest.map fun v => v.category).sum ≤ 8) (hdj : dj + 1 ≤ d) (hM : mMet l Θ dj M' (.ref b :: As) h (.inl v) h1) : mCall l Θ d M pc loc stk rest h (.inl v) h1 := by
  refine ⟨hM.1, hM.2.1, fun p e R s m args below meth c H locs cells slots ls C hR hS hL e1 e2 => ⟨(Value.ref b :: As).toArray, ?_⟩⟩
  have hH := mHead (h := h) (h1 := h1) hd9 hdj C.frames C.room
  have hcell := hrc.cell C.ks hR hS
  obtain ⟨w1, w2, w0, w3, w6, w4, w5⟩ := hw
  have hcw : mMw M' = .code (mMy M') (mMc M') (mMl M') (mMr M') := by rw [mMw, w5]; rfl
  have hin : Cond.code (mMy M') (mMc M') (mMl M') (mMr M') ∈ mWs M' := by rw [mWs, hcw]; exact List.mem_cons_self
  have hse := my_selP (y := mMy M') ⟨hd9.1, hd9.2.1⟩ w0 (C.hts _ w3) (C.hts _ w6) (C.hts _ w4)
  exact (va_runU (x := mMy M') (C := C0) (owner := (mMy M').cls) (b := b) (As := As) (rest := rest) ⟨C.exec, C.bytes, C.maxl, C.own, C.hts⟩ hM.met ⟨⟨rfl, rfl, hH.1, hH.2, pay_in C.hts (mWs_good hd9), hin⟩, C.hts _ (hcw ▸ hd9.2.2.2.2.1), C.hts _ hd9.2.2.2.2.2, ⟨hd9.1, hd9.2.1⟩, mLenF hd9, C.hts _ w1, C.hts _ w2, va_Decl.of (C.hts _ w4) (C.hts _ (hcw ▸ hd9.2.2.2.2.1)), hse, C.hts _ w4⟩ ⟨mPc_blind, hcell, mPre_U C.ks hR hS⟩ rfl hn hL.1 hst (mRoom8 h8) hd ⟨e1, e2⟩).vx
theorem z_priv {i n dj b : Nat} {M' : mM} {C0 : String} {x0 y0 : MethodName} {As rest : List Value} {Qc : mO → mH → Prop} (hd : decode (mMc M) pc = .ok (.invokevirtual i, 3)) (hd9 : mCd M' n) (hw : mCq (mMy M).cls i M' C0 x0 y0) (hrc : mRecv Θ h b C0) (hn : As.length = n) (hst : stk = As.reverse ++ .ref b :: rest) (h8 : (rest.map fun v => v.category).sum ≤ 8) (hdj : dj + 1 ≤ d) (hT : mT l Θ dj M' (.ref b :: As) h Qc)
    (hv : ∀ n h1, ¬ Qc (.inr n) h1) (k : ∀ v h1, Qc (.inl v) h1 → mZ l Θ d M (pc + 3) loc (v.toList ++ rest) h1 Q) : mZ l Θ d M pc loc stk h Q := by
  obtain ⟨o1, h1, q, x⟩ := hT
  rcases o1 with v | n9
  · obtain ⟨o, h', q2, x2⟩ := k v h1 q
    exact ⟨o, h', q2, mX.callR (mCall.pr hd hd9 hw hrc hn hst h8 hdj x) x2⟩
  · exact absurd q (hv _ _)
end MR
