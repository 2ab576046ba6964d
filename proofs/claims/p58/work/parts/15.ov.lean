/-! a method that is named in a superclass and that the receiver's class overrides -/
section OV
variable {l : Launch} {Θ : mW} {d : Nat} {M : mM} {pc : Nat} {loc : List (Option Value)} {stk : List Value} {h : mH}
def mCo (own : String) (i : Nat) (M' M0 : mM) (C0 : String) : Prop := Cond.methodLink own i (mMy M0) ∈ gtbl ∧ Cond.sameMethod (mMy M0).cls (mMy M0).cls (mMy M0).name (mMy M0).desc ∈ gtbl ∧ Cond.selects C0 (mMy M0) (mMy M') ∈ gtbl ∧ Cond.instanceMethod (mMy M') ∈ gtbl ∧ Cond.instanceMethod (mMy M0) ∈ gtbl ∧ mMh M' = [] ∧ mMh M0 = []
theorem mCall.ov {i n dj b : Nat} {M' M0 : mM} {C0 : String} {As rest : List Value} {v : Option Value} {h1 : mH} (hd : decode (mMc M) pc = .ok (.invokevirtual i, 3)) (hd9 : mCd M' n) (hd0 : mCd M0 n) (hw : mCo (mMy M).cls i M' M0 C0) (hrc : mRecv Θ h b C0) (hn : As.length = n) (hst : stk = As.reverse ++ .ref b :: rest) (h8 : (rest.map fun v => v.category).sum ≤ 8) (hdj : dj + 1 ≤ d) (hM : mMet l Θ dj M' (.ref b :: As) h (.inl v) h1) : mCall l Θ d M pc loc stk rest h (.inl v) h1 := by
  refine ⟨hM.1, hM.2.1, fun p e R s m args below meth c H locs cells slots ls C hR hS hL e1 e2 => ⟨(Value.ref b :: As).toArray, ?_⟩⟩
  have hH := mHead (h := h) (h1 := h1) hd9 hdj C.frames C.room
  have hcell := hrc.cell C.ks hR hS
  obtain ⟨w1, w2, w3, w4, w0, w5, w6⟩ := hw
  have hcw : mMw M' = .code (mMy M') (mMc M') (mMl M') (mMr M') := by rw [mMw, w5]; rfl
  have hc0 : mMw M0 = .code (mMy M0) (mMc M0) (mMl M0) (mMr M0) := by rw [mMw, w6]; rfl
  have hin : Cond.code (mMy M') (mMc M') (mMl M') (mMr M') ∈ mWs M' := by rw [mWs, hcw]; exact List.mem_cons_self
  exact (va_runU (x := mMy M0) (C := C0) (owner := (mMy M0).cls) (b := b) (As := As) (rest := rest) ⟨C.exec, C.bytes, C.maxl, C.own, C.hts⟩ hM.met ⟨⟨rfl, rfl, hH.1, hH.2, pay_in C.hts (mWs_good hd9), hin⟩, C.hts _ (hcw ▸ hd9.2.2.2.2.1), C.hts _ hd9.2.2.2.2.2, ⟨hd0.1, hd0.2.1⟩, mLenF hd0, C.hts _ w1, C.hts _ w2, va_Decl.of (C.hts _ w0) (C.hts _ (hc0 ▸ hd0.2.2.2.2.1)), C.hts _ w3, C.hts _ w4⟩ ⟨mPc_blind, hcell, mPre_U C.ks hR hS⟩ rfl hn hL.1 hst (mRoom8 h8) hd ⟨e1, e2⟩).vx
end OV
