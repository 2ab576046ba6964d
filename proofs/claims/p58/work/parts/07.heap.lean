/-! rows of instructions that read, write and make cells -/
abbrev aI (t n : Nat) (f : Nat → Int32) : mE := .inl (t, n, .inl f)
abbrev aL (n : Nat) (f : Nat → Int64) : mE := .inl (2, n, .inr (.inl f))
abbrev aD (n : Nat) (f : Nat → UInt64) : mE := .inl (3, n, .inr (.inr (.inr (.inl f))))
abbrev aQ (t n : Nat) (f : Nat → Option Nat) : mE := .inl (t, n, .inr (.inr (.inr (.inr f))))
abbrev oB (ci : Nat) (fs : List Value) : mE := .inr (ci, fs)
/-- the field of an entry of a class's pool: in which class of the list, at which place -/
def mFl (own : String) (i ci k : Nat) : Prop := ∃ r : vw_C, mCl[ci]? = some r ∧ k < r.2.2 ∧ (Cond.fieldLink own i (r.2.1 k).1 (r.2.1 k).2.1 (r.2.1 k).2.2.1 ∈ gtbl ∨ ∃ host, Cond.fieldLinkNest own i (r.2.1 k).1 (r.2.1 k).2.1 (r.2.1 k).2.2.1 host ∈ mNs)
/-- .. one that may be written: its type -/
def mFp (own : String) (i ci k : Nat) (ty : FieldType) : Prop := ∃ r : vw_C, mCl[ci]? = some r ∧ k < r.2.2 ∧ (r.2.1 k).2.2.2 = false ∧ parseFieldDescriptor (r.2.1 k).2.2.1 = some ty ∧ (Cond.fieldLink own i (r.2.1 k).1 (r.2.1 k).2.1 (r.2.1 k).2.2.1 ∈ gtbl ∨ ∃ host, Cond.fieldLinkNest own i (r.2.1 k).1 (r.2.1 k).2.1 (r.2.1 k).2.2.1 host ∈ mNs)
/-- .. a final one, in its class's constructor -/
def mFf (own : String) (i ci k : Nat) (ty : FieldType) : Prop := ∃ r : vw_C, mCl[ci]? = some r ∧ k < r.2.2 ∧ (r.2.1 k).2.2.2 = true ∧ (r.2.1 k).1 = own ∧ parseFieldDescriptor (r.2.1 k).2.2.1 = some ty ∧ Cond.fieldLink own i (r.2.1 k).1 (r.2.1 k).2.1 (r.2.1 k).2.2.1 ∈ gtbl
theorem mTy_some {T : u_T} {N : Nat} (h : ∀ k, k < N → (parseFieldDescriptor (T k).2.2.1).isSome = true) : ∀ k, k < N → parseFieldDescriptor (T k).2.2.1 = some ((fun k => (parseFieldDescriptor (T k).2.2.1).getD .int) k) := by
  intro k hk
  have := h k hk
  cases e : parseFieldDescriptor (T k).2.2.1 with
  | none => rw [e] at this; cases this
  | some t => simp [e]
section HR
variable {l : Launch} {Θ : mW} {d : Nat} {M : mM} {pc : Nat} {loc : List (Option Value)} {stk : List Value} {h : mH} {o : mO} {h' : mH} {Q : mO → mH → Prop}
theorem mX.heap {h2 : mH} {pc2 : Nat} {loc2 : List (Option Value)} {stk2 : List Value} (hlen : h.length ≤ h2.length) (hsz : msz h ≤ msz h2)
    (hs : ∀ (p : Program) (e : Env) (R : Room) (s : State) (m : MethodId) (args : Array Value) (below : List Frame) (meth : Method) (c : Code) (H : Heap) (locs : List Loc) (cells slots : Nat) (Q : State → Prop) (ls : Array Slot), mCtx l Θ d M p R s m args meth c → mRel Θ h H → mLoc ls (mMl M) loc → va_S (mwA Θ) s.heap H locs → cells + (h2.length - h.length) ≤ R.cells → slots + (msz h2 - msz h) ≤ R.slots →
      (∀ (H1 : Heap) (locs1 : List Loc) (ls1 : Array Slot), mRel Θ h2 H1 → mLoc ls1 (mMl M) loc2 → va_S (mwA Θ) s.heap H1 locs1 → W p l e R s m args below meth c H1 locs1 (cells + (h2.length - h.length)) (slots + (msz h2 - msz h)) Q (F0 m pc2 ls1 stk2)) → W p l e R s m args below meth c H locs cells slots Q (F0 m pc ls stk))
    (k : mX l Θ d M pc2 loc2 stk2 h2 o h') : mX l Θ d M pc loc stk h o h' := by
  refine ⟨Nat.le_trans hlen k.1, Nat.le_trans hsz k.2.1, fun p e R s m args below meth c C H locs cells slots mc ms ls hR hS hL h1 h2' h3 h4 => ?_⟩
  have k1 := k.1
  have k2 := k.2.1
  refine hs p e R s m args below meth c H locs cells slots _ ls C hR hL hS (by omega) (by omega) (fun H1 locs1 ls1 hR1 hL1 hS1 => ?_)
  exact k.2.2 p e R s m args below meth c C H1 locs1 _ _ mc ms ls1 hR1 hS1 hL1 (by omega) (by omega) h3 h4
theorem mZ.heap {h2 : mH} {pc2 : Nat} {loc2 : List (Option Value)} {stk2 : List Value} (hlen : h.length ≤ h2.length) (hsz : msz h ≤ msz h2)
    (hs : ∀ (p : Program) (e : Env) (R : Room) (s : State) (m : MethodId) (args : Array Value) (below : List Frame) (meth : Method) (c : Code) (H : Heap) (locs : List Loc) (cells slots : Nat) (Q : State → Prop) (ls : Array Slot), mCtx l Θ d M p R s m args meth c → mRel Θ h H → mLoc ls (mMl M) loc → va_S (mwA Θ) s.heap H locs → cells + (h2.length - h.length) ≤ R.cells → slots + (msz h2 - msz h) ≤ R.slots →
      (∀ (H1 : Heap) (locs1 : List Loc) (ls1 : Array Slot), mRel Θ h2 H1 → mLoc ls1 (mMl M) loc2 → va_S (mwA Θ) s.heap H1 locs1 → W p l e R s m args below meth c H1 locs1 (cells + (h2.length - h.length)) (slots + (msz h2 - msz h)) Q (F0 m pc2 ls1 stk2)) → W p l e R s m args below meth c H locs cells slots Q (F0 m pc ls stk))
    (k : mZ l Θ d M pc2 loc2 stk2 h2 Q) : mZ l Θ d M pc loc stk h Q := by
  obtain ⟨o, h', q, x⟩ := k
  exact ⟨o, h', q, mX.heap hlen hsz hs x⟩
/-- a read: the heap stays -/
theorem mZ.read {pc2 : Nat} {loc2 : List (Option Value)} {stk2 : List Value}
    (hs : ∀ (p : Program) (e : Env) (R : Room) (s : State) (m : MethodId) (args : Array Value) (below : List Frame) (meth : Method) (c : Code) (H : Heap) (locs : List Loc) (cells slots : Nat) (Q : State → Prop) (ls : Array Slot), mCtx l Θ d M p R s m args meth c → mRel Θ h H → mLoc ls (mMl M) loc → va_S (mwA Θ) s.heap H locs →
      W p l e R s m args below meth c H locs cells slots Q (F0 m pc2 ls stk2) → W p l e R s m args below meth c H locs cells slots Q (F0 m pc ls stk))
    (k : mZ l Θ d M pc2 loc stk2 h Q) : mZ l Θ d M pc loc stk h Q := by
  obtain ⟨o, h', q, x⟩ := k
  refine ⟨o, h', q, x.1, x.2.1, fun p e R s m args below meth c C H locs cells slots mc ms ls hR hS hL h1 h2' h3 h4 => ?_⟩
  exact hs p e R s m args below meth c H locs cells slots _ ls C hR hL hS (x.2.2 p e R s m args below meth c C H locs cells slots mc ms ls hR hS hL h1 h2' h3 h4)
/-- a write of one cell that keeps its size -/
theorem mZ.write {q : Nat} {e0 e1 : mE} {pc2 : Nat} {stk2 : List Value} (hg : gt Θ h q = some e0) (hz : msz1 e1 = msz1 e0)
    (hs : ∀ (p : Program) (e : Env) (R : Room) (s : State) (m : MethodId) (args : Array Value) (below : List Frame) (meth : Method) (c : Code) (H : Heap) (locs : List Loc) (cells slots : Nat) (Q : State → Prop) (ls : Array Slot), mCtx l Θ d M p R s m args meth c → mRel Θ h H → va_at (mwD Θ) mCl (q, mcv Θ e0) H → va_S (mwA Θ) s.heap H locs →
      (∀ (H1 : Heap) (k : Nat), H1.size = H.size → (∀ x : Nat, x ≠ q → H1[x]? = H[x]?) → va_at (mwD Θ) mCl (q, mcv Θ e1) H1 → W p l e R s m args below meth c H1 (locs ++ [⟨q, k⟩]) cells slots Q (F0 m pc2 ls stk2)) → W p l e R s m args below meth c H locs cells slots Q (F0 m pc ls stk))
    (k : mZ l Θ d M pc2 loc stk2 (pt Θ h q e1) Q) : mZ l Θ d M pc loc stk h Q := by
  have hl : (pt Θ h q e1).length = h.length := pt_length
  have hm : msz (pt Θ h q e1) = msz h := msz_pt hg hz
  refine mZ.heap (by rw [hl]; exact Nat.le_refl _) (by rw [hm]; exact Nat.le_refl _) (fun p e R s m args below meth c H locs cells slots Q ls C hR hL hS h1 h2 kk => ?_) k
  refine hs p e R s m args below meth c H locs cells slots Q ls C hR (hR.get hg) hS (fun H1 k9 z1 o1 a1 => ?_)
  have := kk H1 (locs ++ [⟨q, k9⟩]) ls (hR.put hg z1 o1 a1) hL (hS.put z1 o1 (gt_some hg).1)
  rw [hl, hm, Nat.sub_self, Nat.sub_self, Nat.add_zero, Nat.add_zero] at this
  exact this
theorem mRel.P {q : Nat} {e : mE} {H : Heap} (hR : mRel Θ h H) (hg : gt Θ h q = some e) : va_P (mwD Θ) mCl [(q, mcv Θ e)] H := fun k x hx => by
  have hz : k < 1 := (List.getElem?_eq_some_iff.mp hx).1
  rw [show k = 0 by omega] at hx
  cases hx
  exact hR.get hg
theorem z_getfield {i q ci k : Nat} {fs : List Value} {v : Value} (hd : decode (mMc M) pc = .ok (.getfield i, 3)) (hf : mFl (mMy M).cls i ci k) (hg : gt Θ h q = some (oB ci fs)) (hv : fs[k]? = some v) (kk : mZ l Θ d M (pc + 3) loc (v :: stk) h Q) : mZ l Θ d M pc loc (.ref q :: stk) h Q := by
  obtain ⟨⟨C0, T, N⟩, hc, hk, hw⟩ := hf
  have hok := mCl_ok _ (List.mem_of_getElem? hc)
  refine mZ.read (loc2 := loc) (fun p e R s m args below meth c H locs cells slots Q ls C hR hL hS kk => ?_) kk
  rcases hw with hw | ⟨host, hw⟩
  · exact va_get C.exec C.bytes C.hts hok.1 C.own C.ks.1 (hR.P hg) 0 rfl hc k hk (C.hts _ hw) (fun _ h9 => h9) hv hd kk
  · exact va_getN (host := host) C.exec C.bytes C.hts hok.1 C.own C.ks.1 (hR.P hg) 0 rfl hc k hk ((C.ks.2.2.2.2.2.2.1 _ hw).use rfl) (fun _ h9 => h9) hv hd kk
theorem fs_size {fs : List Value} {k : Nat} {v : Value} : (fs.set k v).length = fs.length := List.length_set
theorem z_putfield {i q ci k : Nat} {fs : List Value} {v : Value} {ty : FieldType} (hd : decode (mMc M) pc = .ok (.putfield i, 3)) (hf : mFp (mMy M).cls i ci k ty) (hg : gt Θ h q = some (oB ci fs)) (hl : k < fs.length) (hn : narrow ty v = v) (hfit : fits ty v = true) (kk : mZ l Θ d M (pc + 3) loc stk (pt Θ h q (oB ci (fs.set k v))) Q) : mZ l Θ d M pc loc (v :: .ref q :: stk) h Q := by
  obtain ⟨⟨C0, T, N⟩, hc, hk, hfin, hty, hw⟩ := hf
  have hok := mCl_ok _ (List.mem_of_getElem? hc)
  refine mZ.write hg (by simp [msz1]) (fun p e R s m args below meth c H locs cells slots Q ls C hR hat hS kk => ?_) kk
  have hap := va_apart (own := (mMy M).cls) C.hts hok.1 _ (mTy_some hok.2.1) hok.2.2 C.ks.1 hc
  obtain ⟨r, h1, cell, q1, q2, q3, q4⟩ := hat
  have hr : r = (C0, T, N) := Option.some.inj (h1.symm.trans hc)
  subst hr
  obtain ⟨hS9, hfc, kC, hkC, hkind⟩ := C.ks.1.1 ci _ hc
  obtain ⟨cf, kf, fi, f, hi, hsl⟩ := hS9 k hk
  have hlay := C.hts _ (hok.1 _ (u_in_lay hk))
  unfold u_lay at hlay
  rw [if_neg (by rw [hfin]; decide)] at hlay
  have hst := (u_facts hfc hkC (u_lays C.hts hok.1 hk) hi).1
  have h6 := u_store hfc hkC hkind hlay hi hty hn hfit
  have fin : ∀ H1 : Heap, H1[q]? = some (cell.setSlot f.slot v) → va_at (mwD Θ) mCl (q, mcv Θ (oB ci (fs.set k v))) H1 := fun H1 e1 => by
    rw [hsl] at e1
    exact ⟨_, hc, t_OB.to (V := updV (vp_V fs) k v) ⟨_, e1, q2, q3, t_set q4 hap hk v⟩ (fun j _ => vp_updV_set hl v j)⟩
  rcases hw with hw | ⟨host, hw⟩
  · exact W.putK C.exec C.bytes (f := f) ⟨C.own, C.hts _ hw, ⟨_, _, _, hi⟩, hst⟩ (by rw [q2]; exact h6) q1 q3 (by rw [hsl]; exact k2_hasslot (q4 k hk)) rfl rfl hd fun H1 e1 e2 e3 => kk H1 _ e2 e3 (fin H1 e1)
  · exact va_WputK (host := host) C.exec C.bytes (f := f) C.own ((C.ks.2.2.2.2.2.2.1 _ hw).use rfl) hi hst (by rw [q2]; exact h6) q1 q3 (by rw [hsl]; exact k2_hasslot (q4 k hk)) rfl rfl hd fun H1 e1 e2 e3 => kk H1 _ e2 e3 (fin H1 e1)
theorem z_putfieldF {i q ci k : Nat} {fs : List Value} {v : Value} {ty : FieldType} (hd : decode (mMc M) pc = .ok (.putfield i, 3)) (hin : (mMy M).name = "<init>") (hf : mFf (mMy M).cls i ci k ty) (hg : gt Θ h q = some (oB ci fs)) (hl : k < fs.length) (hn : narrow ty v = v) (hfit : fits ty v = true) (kk : mZ l Θ d M (pc + 3) loc stk (pt Θ h q (oB ci (fs.set k v))) Q) : mZ l Θ d M pc loc (v :: .ref q :: stk) h Q := by
  obtain ⟨⟨C0, T, N⟩, hc, hk, hfin, hdecl, hty, hw⟩ := hf
  have hok := mCl_ok _ (List.mem_of_getElem? hc)
  refine mZ.write hg (by simp [msz1]) (fun p e R s m args below meth c H locs cells slots Q ls C hR hat hS kk => ?_) kk
  have hap := va_apart (own := (mMy M).cls) C.hts hok.1 _ (mTy_some hok.2.1) hok.2.2 C.ks.1 hc
  obtain ⟨r, h1, cell, q1, q2, q3, q4⟩ := hat
  have hr : r = (C0, T, N) := Option.some.inj (h1.symm.trans hc)
  subst hr
  obtain ⟨hS9, hfc, kC, hkC, hkind⟩ := C.ks.1.1 ci _ hc
  obtain ⟨cf, kf, fi, f, hi, hsl⟩ := hS9 k hk
  have hlay := C.hts _ (hok.1 _ (u_in_lay hk))
  unfold u_lay at hlay
  rw [if_pos hfin] at hlay
  have hst := (u_facts hfc hkC (u_lays C.hts hok.1 hk) hi).1
  have hcf : m.cls = cf := by
    obtain ⟨_, _, c', _, _, _, -, -, hf', -, -, -, hown2, -⟩ := Cond.laysFinal_spec hlay
    have e1 : c' = cf := by have := hi.symm.trans hf'; simp at this; exact this.1.symm
    have h9 : (T k).1 = (mMy M).cls := hdecl
    rw [h9] at hown2
    rw [← e1]; exact Option.some.inj (C.own.symm.trans hown2)
  have h6 := u_fits hfc hkC hkind (Or.inr hlay) hi hty hn hfit
  exact W.putFinK C.exec C.bytes C.own (C.hts _ hw) hi hst hcf (C.name.trans hin) (by rw [q2]; exact h6) q1 q3 (by rw [hsl]; exact k2_hasslot (q4 k hk)) rfl rfl hd fun H1 e1 e2 e3 => kk H1 _ e2 e3 (by
    rw [hsl] at e1
    exact ⟨_, hc, t_OB.to (V := updV (vp_V fs) k v) ⟨_, e1, q2, q3, t_set q4 hap hk v⟩ (fun j _ => vp_updV_set hl v j)⟩)
-- arrays
theorem z_iald {q n : Nat} {f : Nat → Int32} {i v : Int32} (hd : decode (mMc M) pc = .ok (.iaload, 1)) (hg : gt Θ h q = some (aI 0 n f)) (hin : vp_in i n) (hv : f i.toNatClampNeg = v) (kk : mZ l Θ d M (pc + 1) loc (.int v :: stk) h Q) : mZ l Θ d M pc loc (.int i :: .ref q :: stk) h Q :=
  mZ.read (loc2 := loc) (fun p e R s m args below meth c H locs cells slots Q ls C hR hL hS kk => va_iald C.exec C.bytes C.ks.1 (hR.P hg) 0 0 rfl rfl hin hd (hv.symm ▸ kk)) kk
theorem z_zald {q n : Nat} {f : Nat → Int32} {i v : Int32} (hd : decode (mMc M) pc = .ok (.baload, 1)) (hg : gt Θ h q = some (aI 1 n f)) (hin : vp_in i n) (hv : f i.toNatClampNeg = v) (kk : mZ l Θ d M (pc + 1) loc (.int v :: stk) h Q) : mZ l Θ d M pc loc (.int i :: .ref q :: stk) h Q :=
  mZ.read (loc2 := loc) (fun p e R s m args below meth c H locs cells slots Q ls C hR hL hS kk => va_zald C.exec C.bytes C.ks.1 (hR.P hg) 0 1 rfl rfl hin hd (hv.symm ▸ kk)) kk
theorem z_bald {q n : Nat} {f : Nat → Int32} {i v : Int32} (hd : decode (mMc M) pc = .ok (.baload, 1)) (hg : gt Θ h q = some (aI 4 n f)) (hin : vp_in i n) (hv : f i.toNatClampNeg = v) (kk : mZ l Θ d M (pc + 1) loc (.int v :: stk) h Q) : mZ l Θ d M pc loc (.int i :: .ref q :: stk) h Q :=
  mZ.read (loc2 := loc) (fun p e R s m args below meth c H locs cells slots Q ls C hR hL hS kk => va_bald C.exec C.bytes C.ks.1 (hR.P hg) 0 4 rfl rfl hin hd (hv.symm ▸ kk)) kk
theorem z_qald {q t n : Nat} {f : Nat → Option Nat} {i : Int32} {v : Value} (ht : t = 5 ∨ t = 6) (hd : decode (mMc M) pc = .ok (.aaload, 1)) (hg : gt Θ h q = some (aQ t n f)) (hin : vp_in i n) (hv : va_rf (f i.toNatClampNeg) = v) (kk : mZ l Θ d M (pc + 1) loc (v :: stk) h Q) : mZ l Θ d M pc loc (.int i :: .ref q :: stk) h Q :=
  mZ.read (loc2 := loc) (fun p e R s m args below meth c H locs cells slots Q ls C hR hL hS kk => by
    rcases ht with rfl | rfl
    · exact va_aldq C.exec C.bytes C.ks.1 (hR.P hg) 0 5 rfl rfl hin hd (hv.symm ▸ kk)
    · exact va_aldq C.exec C.bytes C.ks.1 (hR.P hg) 0 6 rfl rfl hin hd (hv.symm ▸ kk)) kk
theorem z_alen {q t n : Nat} {x : (Nat → Int32) ⊕ (Nat → Int64) ⊕ (Nat → UInt32) ⊕ (Nat → UInt64) ⊕ (Nat → Option Nat)} {v : Int32} (ht : t < 7) (hd : decode (mMc M) pc = .ok (.arraylength, 1)) (hg : gt Θ h q = some (.inl (t, n, x))) (hv : Int32.ofNat n = v) (kk : mZ l Θ d M (pc + 1) loc (.int v :: stk) h Q) : mZ l Θ d M pc loc (.ref q :: stk) h Q :=
  mZ.read (loc2 := loc) (fun p e R s m args below meth c H locs cells slots Q ls C hR hL hS kk => by
    obtain ⟨ty, hty⟩ : ∃ ty, (mTyC Θ)[t]? = some (mwtC Θ t, ty) := by
      rcases (show t = 0 ∨ t = 1 ∨ t = 2 ∨ t = 3 ∨ t = 4 ∨ t = 5 ∨ t = 6 by omega) with rfl | rfl | rfl | rfl | rfl | rfl | rfl <;> exact ⟨_, rfl⟩
    exact va_alen C.exec C.bytes C.ks.1 (hR.P hg) 0 t rfl hty hv hd kk) kk
end HR
