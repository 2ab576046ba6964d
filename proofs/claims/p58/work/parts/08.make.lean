/-! stores into arrays, new cells, ends -/
section HS
variable {l : Launch} {Θ : mW} {d : Nat} {M : mM} {pc : Nat} {loc : List (Option Value)} {stk : List Value} {h : mH} {o : mO} {h' : mH} {Q : mO → mH → Prop}
theorem z_iast {q n : Nat} {f : Nat → Int32} {i : Int32} {x : Int32} (hd : decode (mMc M) pc = .ok (.iastore, 1)) (hg : gt Θ h q = some (aI 0 n (f))) (hin : vp_in i n) (kk : mZ l Θ d M (pc + 1) loc stk (pt Θ h q (aI 0 n (upd f i.toNatClampNeg x))) Q) : mZ l Θ d M pc loc (.int x :: .int i :: .ref q :: stk) h Q := by
  refine mZ.write (pc2 := pc + 1) (stk2 := stk) (e1 := aI 0 n (upd f i.toNatClampNeg x)) hg rfl (fun p e R s m args below meth c H locs cells slots Q ls C hR hat hS kk => by
    refine W.iast C.exec C.bytes hat ((C.ks.1.2 0 _ rfl).1 n (fun j => .int (f j))) (fun q => by cases q) (by show ¬ (i < 0 ∨ (arrV _ _ _).slots.size ≤ _); rw [arrV_size]; exact hin) rfl rfl hd fun H1 e1 z oq => ?_
    refine kk H1 _ z oq ?_
    show H1[q]? = some (vp_cell _ _)
    rw [e1]
    show some ((vp_cell _ _).setSlot _ _) = some (vp_cell _ _)
    rw [vp_cell_i, vp_cell_i, arrV_store]
    congr 2
    funext q9
    by_cases hq : q9 = i.toNatClampNeg
    · subst hq
      simp [updV, upd]
      try rfl
    · simp [updV, upd, hq]) kk
theorem z_zast {q n : Nat} {f : Nat → Int32} {i : Int32} {x : Int32} (hd : decode (mMc M) pc = .ok (.bastore, 1)) (hg : gt Θ h q = some (aI 1 n (f))) (hin : vp_in i n) (kk : mZ l Θ d M (pc + 1) loc stk (pt Θ h q (aI 1 n (upd f i.toNatClampNeg (vp_nar .boolean x)))) Q) : mZ l Θ d M pc loc (.int x :: .int i :: .ref q :: stk) h Q := by
  refine mZ.write (pc2 := pc + 1) (stk2 := stk) (e1 := aI 1 n (upd f i.toNatClampNeg (vp_nar .boolean x))) hg rfl (fun p e R s m args below meth c H locs cells slots Q ls C hR hat hS kk => by
    refine W.zast C.exec C.bytes hat ((C.ks.1.2 1 _ rfl).1 n (fun j => .int (f j))) (fun q => by cases q) (by show ¬ (i < 0 ∨ (arrV _ _ _).slots.size ≤ _); rw [arrV_size]; exact hin) rfl rfl hd fun H1 e1 z oq => ?_
    refine kk H1 _ z oq ?_
    show H1[q]? = some (vp_cell _ _)
    rw [e1]
    show some ((vp_cell _ _).setSlot _ _) = some (vp_cell _ _)
    rw [vp_cell_i, vp_cell_i, arrV_store]
    congr 2
    funext q9
    by_cases hq : q9 = i.toNatClampNeg
    · subst hq
      simp [updV, upd, vp_nar]
      try rfl
    · simp [updV, upd, vp_nar, hq]) kk
theorem z_bast {q n : Nat} {f : Nat → Int32} {i : Int32} {x : Int32} (hd : decode (mMc M) pc = .ok (.bastore, 1)) (hg : gt Θ h q = some (aI 4 n (f))) (hin : vp_in i n) (kk : mZ l Θ d M (pc + 1) loc stk (pt Θ h q (aI 4 n (upd f i.toNatClampNeg (vp_nar .byte x)))) Q) : mZ l Θ d M pc loc (.int x :: .int i :: .ref q :: stk) h Q := by
  refine mZ.write (pc2 := pc + 1) (stk2 := stk) (e1 := aI 4 n (upd f i.toNatClampNeg (vp_nar .byte x))) hg rfl (fun p e R s m args below meth c H locs cells slots Q ls C hR hat hS kk => by
    refine W.bast C.exec C.bytes hat ((C.ks.1.2 4 _ rfl).1 n (fun j => .int (f j))) (fun q => by cases q) (by show ¬ (i < 0 ∨ (arrV _ _ _).slots.size ≤ _); rw [arrV_size]; exact hin) rfl rfl hd fun H1 e1 z oq => ?_
    refine kk H1 _ z oq ?_
    show H1[q]? = some (vp_cell _ _)
    rw [e1]
    show some ((vp_cell _ _).setSlot _ _) = some (vp_cell _ _)
    rw [vp_cell_i, vp_cell_i, arrV_store]
    congr 2
    funext q9
    by_cases hq : q9 = i.toNatClampNeg
    · subst hq
      simp [updV, upd, vp_nar]
      try rfl
    · simp [updV, upd, vp_nar, hq]) kk
theorem mAsg {U : State} {C0 : String} {cC : ClassId} (h : ClassAt U C0 cC) : U.vm.assignable cC cC = true := va_assign h
theorem z_qast {q t n v ci : Nat} {f : Nat → Option Nat} {vs : List Value} {i : Int32} (ht : (t = 5 ∧ ci = 3) ∨ (t = 6 ∧ ci = 1)) (hd : decode (mMc M) pc = .ok (.aastore, 1)) (hg : gt Θ h q = some (aQ t n f)) (hv : gt Θ h v = some (oB ci vs)) (hin : vp_in i n) (kk : mZ l Θ d M (pc + 1) loc stk (pt Θ h q (aQ t n (va_up f i.toNatClampNeg (some v)))) Q) : mZ l Θ d M pc loc (.ref v :: .int i :: .ref q :: stk) h Q := by
  have hlt : i.toNatClampNeg < n := Nat.not_le.mp fun q => hin (Or.inr q)
  have h0 : ¬ i < 0 := fun q => hin (Or.inl q)
  refine mZ.write (pc2 := pc + 1) (stk2 := stk) (e1 := aQ t n (va_up f i.toNatClampNeg (some v))) hg rfl (fun p e R s m args below meth c H locs cells slots Q ls C hR hat hS kk => by
    obtain ⟨r, hcr, htr⟩ : ∃ r : vw_C, mCl[ci]? = some r ∧ (mTyC Θ)[t]? = some (mwtC Θ t, .object r.1) := by
      rcases ht with ⟨rfl, rfl⟩ | ⟨rfl, rfl⟩ <;> exact ⟨_, rfl, rfl⟩
    obtain ⟨r', hr', cellV, g1, g2, g3, -⟩ := hR.get hv
    have hcls := (C.ks.1.1 ci r hcr).2
    obtain ⟨hAr, kA, comp, k1, k2, k3, -⟩ := C.ks.1.2 t _ htr
    have hcomp : comp = (mwD Θ).1 ci := Option.some.inj (k3.symm.trans hcls.1)
    subst hcomp
    obtain ⟨kC, hkC, -⟩ := hcls.2
    refine W.aast C.exec C.bytes hat (fun q h => by cases h) (fun h => by cases h) k1 k2 rfl hkC ⟨h0, by show _ < (arrV _ _ _).slots.size; rw [arrV_size]; exact hlt⟩ g1 (fun q h => by rw [g3] at h; cases h) (by rw [g2]; exact hkC) (by rw [g2]; exact va_assign hcls) rfl rfl hd fun H1 e1 z oq => ?_
    refine kk H1 _ z oq ?_
    show H1[q]? = some (vp_cell _ _)
    rw [e1]
    show some ((vp_cell _ _).setSlot _ _) = some (vp_cell _ _)
    rw [vp_cell_q, vp_cell_q, arrV_store]
    congr 2
    funext q9
    by_cases hq : q9 = i.toNatClampNeg
    · subst hq
      simp [updV, va_up, va_rf]
    · simp [updV, va_up, hq]) kk
/-- what a new object's fields hold -/
def mDef (r : vw_C) : List Value := (List.range r.2.2).map (fun k => defaultValue ((parseFieldDescriptor (r.2.1 k).2.2.1).getD .int))
theorem mDef_at {r : vw_C} {j : Nat} (hj : j < r.2.2) : defaultValue ((parseFieldDescriptor (r.2.1 j).2.2.1).getD .int) = vp_V (mDef r) j := by
  simp [vp_V, mDef, hj]
/-- what 'new' asks -/
def mNw (own : String) (i ci : Nat) (fs : List Value) : Prop := ∃ r : vw_C, mCl[ci]? = some r ∧ Cond.classLink own i r.1 ∈ gtbl ∧ Cond.instantiable r.1 r.2.2 ∈ gtbl ∧ Cond.initialized r.1 ∈ gtbl ∧ mDef r = fs ∧ fs.length = r.2.2 ∧ 0 < r.2.2
theorem z_new {i ci : Nat} {fs : List Value} (hd : decode (mMc M) pc = .ok (.new i, 3)) (hw : mNw (mMy M).cls i ci fs) (kk : mZ l Θ d M (pc + 3) loc (.ref (mwB Θ + h.length) :: stk) (h ++ [oB ci fs]) Q) : mZ l Θ d M pc loc stk h Q := by
  obtain ⟨r, hc, w1, w2, w3, hdf, hlen, hpos⟩ := hw
  have hok := mCl_ok _ (List.mem_of_getElem? hc)
  have hz : msz1 (oB ci fs) = r.2.2 := by show (if fs.length = 0 then 6 else fs.length) = r.2.2; rw [if_neg (by omega), hlen]
  refine mZ.heap (by simp) (by rw [msz_app]; omega) (fun p e R s m args below meth c H locs cells slots Q ls C hR hL hS h1 h2 kk => ?_) kk
  rw [show (h ++ [oB ci fs]).length - h.length = 1 by simp] at h1 kk
  rw [show msz (h ++ [oB ci fs]) - msz h = r.2.2 by rw [msz_app, hz]; omega] at h2 kk
  have hKn := C.ks.1.1 ci _ hc
  refine W.newcK C.exec C.bytes C.own (C.hts _ w1) (C.hts _ w2) (C.hts _ w3) rfl hd h1 h2 hKn.2.1 rfl fun H1 kC hkC e1 z1 o1 => ?_
  have hq : H.size = mwB Θ + h.length := hR.1
  rw [hq]
  refine kk H1 locs ls (hR.push z1 o1 ⟨r, hc, ?_⟩) hL ⟨Nat.le_trans hS.1 (by omega), fun x h1 h2 => (o1 x (Nat.lt_of_lt_of_le h1 hS.1)).trans (hS.2.1 x h1 h2), hS.2.2⟩
  exact (u_born _ C.hts hok.1 hKn hkC e1 (mTy_some hok.2.1)).to (fun j hj => by rw [← hdf]; exact mDef_at hj)
theorem mArr_find {U : State} {H : Heap} {t : Nat} {ty : FieldType} {cA : ClassId} (hK : mKS Θ U H) (ht : (mTyC Θ)[t]? = some (mwtC Θ t, ty)) (hnm : U.vm.findClass ("[" ++ ty.toString) = some cA) : cA = mwtC Θ t := by
  have h1 := (hK.1.2 t _ ht).2
  have h2 : U.vm.findClass ("[" ++ ty.toString) = some (mwtC Θ t) := by
    cases ty with
    | object C0 => obtain ⟨_, _, _, _, _, h4⟩ := h1; exact h4
    | _ => exact h1
  exact Option.some.inj (hnm.symm.trans h2)
theorem mX.newarr {t N' : Nat} {a0 : vp_A} {H H1 : Heap} {s : State} {locs : List Loc} (hR : mRel Θ h H) (hS : va_S (mwA Θ) s.heap H locs) (z1 : H1.size = H.size + 1) (o1 : ∀ q : Nat, q < H.size → H1[q]? = H[q]?) (e1 : H1[H.size]? = some (vp_cell (mwtC Θ t) a0)) : mRel Θ (h ++ [.inl (t, a0)]) H1 ∧ va_S (mwA Θ) s.heap H1 locs :=
  ⟨hR.push z1 o1 e1, ⟨Nat.le_trans hS.1 (by omega), fun x h1 h2 => (o1 x (Nat.lt_of_lt_of_le h1 hS.1)).trans (hS.2.1 x h1 h2), hS.2.2⟩⟩
/-- a new array of numbers -/
theorem z_newarray {atype : ArrayType} {t n : Nat} {ty : FieldType} {x : Int32} {a0 : vp_A} (hd : decode (mMc M) pc = .ok (.newarray atype, 2)) (hty : newarray.typeOf atype = ty) (ht : ∀ Θ : mW, (mTyC Θ)[t]? = some (mwtC Θ t, ty)) (hw : Cond.arrayClass ty ∈ gtbl) (ha : ∀ cA : ClassId, vp_cell cA a0 = arrV cA n (fun _ => defaultValue ty)) (h0 : a0.1 = n) (hx : ¬ x < 0) (hN : x.toNatClampNeg = n) (hb : n * componentBytes ty ≤ 536870912)
    (kk : mZ l Θ d M (pc + 2) loc (.ref (mwB Θ + h.length) :: stk) (h ++ [.inl (t, a0)]) Q) : mZ l Θ d M pc loc (.int x :: stk) h Q := by
  subst hty
  have hz : msz1 (.inl (t, a0)) = n := h0
  refine mZ.heap (by simp) (by rw [msz_app]; omega) (fun p e R s m args below meth c H locs cells slots Q ls C hR hL hS h1 h2 kk => ?_) kk
  rw [show (h ++ [(.inl (t, a0) : mE)]).length - h.length = 1 by simp] at h1 kk
  rw [show msz (h ++ [(.inl (t, a0) : mE)]) - msz h = n by rw [msz_app, hz]; omega] at h2 kk
  refine va_newaK C.exec C.bytes (C.hts _ hw) rfl hd rfl hx hN hb h1 h2 hR.1 fun H1 cA e1 z1 o1 hAr hNm => ?_
  have hcA := mArr_find C.ks (ht Θ) hNm
  subst hcA
  obtain ⟨r1, r2⟩ := mX.newarr (t := t) (N' := n) (a0 := a0) hR hS (by rw [z1, hR.1]) (by rw [hR.1]; exact o1) (by rw [ha, hR.1]; exact e1)
  exact kk H1 locs ls r1 hL r2
/-- a new array of references -/
theorem z_anewarray {i t n : Nat} {C0 : String} {x : Int32} (hd : decode (mMc M) pc = .ok (.anewarray i, 3)) (ht : ∀ Θ : mW, (mTyC Θ)[t]? = some (mwtC Θ t, .object C0)) (hw : Cond.classLink (mMy M).cls i C0 ∈ gtbl) (hw2 : C0 ∈ mAo) (hx : ¬ x < 0) (hN : x.toNatClampNeg = n) (hb : n * 4 ≤ 536870912)
    (kk : mZ l Θ d M (pc + 3) loc (.ref (mwB Θ + h.length) :: stk) (h ++ [aQ t n (fun _ => none)]) Q) : mZ l Θ d M pc loc (.int x :: stk) h Q := by
  have hz : msz1 (aQ t n (fun _ => none)) = n := rfl
  refine mZ.heap (by simp) (by rw [msz_app]; omega) (fun p e R s m args below meth c H locs cells slots Q ls C hR hL hS h1 h2 kk => ?_) kk
  rw [show (h ++ [aQ t n (fun _ => none)]).length - h.length = 1 by simp] at h1 kk
  rw [show msz (h ++ [aQ t n (fun _ => none)]) - msz h = n by rw [msz_app, hz]; omega] at h2 kk
  subst hN
  refine W.anew C.exec C.bytes C.own (C.hts _ hw) (va_AO.use (C.ks.2.2.2.2.2.2.2.2.2.1.2 _ hw2)) rfl hd rfl hx hb h1 h2 fun cA kA comp f1 f2 f3 f4 => ?_
  generalize hH1 : H.push ({ cls := cA, slots := Array.replicate x.toNatClampNeg .null, vm := .none } : Cell) = H1
  have z1 : H1.size = H.size + 1 := by rw [← hH1, Array.size_push]
  have e1 : H1[H.size]? = some (arrV cA x.toNatClampNeg (fun _ => .null)) := by rw [← hH1, Array.getElem?_push_size, ← arrV_new]
  have o1 : ∀ q : Nat, q < H.size → H1[q]? = H[q]? := fun q hq => by rw [← hH1, Array.getElem?_push, if_neg (Nat.ne_of_lt hq)]
  have hcA : cA = mwtC Θ t := mArr_find C.ks (ht Θ) f1
  subst hcA
  obtain ⟨r1, r2⟩ := mX.newarr (t := t) (N' := x.toNatClampNeg) (a0 := (x.toNatClampNeg, .inr (.inr (.inr (.inr (fun _ => none)))))) hR hS z1 o1 e1
  rw [hR.1]
  exact kk H1 locs ls r1 hL r2
/-! ends -/
theorem mZ.ended {v : Option Value} (hq : Q (.inl v) h) (hs : ∀ (p : Program) (e : Env) (R : Room) (s : State) (m : MethodId) (args : Array Value) (below : List Frame) (meth : Method) (c : Code) (H : Heap) (locs : List Loc) (cells slots : Nat) (Qc : Array Value → State → Outcome → State → Prop) (free : Addr → Prop) (ls : Array Slot), mCtx l Θ d M p R s m args meth c →
      (∀ t : State, t.heap = H → s.WarmedH t.vm → Qc args s (.returned v) t) → (∀ q ∈ locs, free q.base) → W p l e R s m args below meth c H locs cells slots (MQ below Qc args s cells slots free) (F0 m pc ls stk)) : mZ l Θ d M pc loc stk h Q := by
  refine ⟨.inl v, h, hq, Nat.le_refl _, Nat.le_refl _, fun p e R s m args below meth c C H locs cells slots mc ms ls hR hS hL h1 h2 h3 h4 => ?_⟩
  rw [Nat.sub_self, Nat.add_zero] at h1 h2
  subst h1; subst h2
  refine vx_ret (hs p e R s m args below meth c H locs cells slots _ _ ls C (fun t ht hW => ⟨⟨v, rfl, rfl⟩, by rw [ht]; exact hR, fun q hq => ?_⟩) hS.2.2)
  rw [ht]
  exact hS.2.1 q (Nat.lt_of_lt_of_le hq C.ks.2.2.2.2.2.2.2.2.2.2) (Nat.not_le.mpr hq)
theorem z_ireturn {v : Int32} {ty : FieldType} (hd : decode (mMc M) pc = .ok (.ireturn, 1)) (hr : mMr M = some ty) (hn : narrow ty (.int v) = .int v) (hq : Q (.inl (some (.int v))) h) : mZ l Θ d M pc loc [.int v] h Q :=
  mZ.ended hq (fun p e R s m args below meth c H locs cells slots Qc free ls C hQ hf => W.zret (ty := ty) C.exec C.bytes (C.ret.trans hr) hn hQ hf hd C.locks)
theorem z_return (hd : decode (mMc M) pc = .ok (.return_, 1)) (hr : mMr M = none) (hq : Q (.inl none) h) : mZ l Θ d M pc loc [] h Q :=
  mZ.ended hq (fun p e R s m args below meth c H locs cells slots Qc free ls C hQ hf => W.vret C.exec C.bytes (C.ret.trans hr) hQ hf hd C.locks)
theorem z_areturn {v : Value} {rt : FieldType} (hd : decode (mMc M) pc = .ok (.areturn, 1)) (hr : mMr M = some rt) (hrt : (∃ n, rt = .object n) ∨ ∃ t, rt = .array t) (hv : v = .null ∨ ∃ a, v = .ref a) (hq : Q (.inl (some v)) h) : mZ l Θ d M pc loc [v] h Q :=
  mZ.ended hq (fun p e R s m args below meth c H locs cells slots Qc free ls C hQ hf => W.aret C.exec C.bytes (C.ret.trans hr) hrt hv hQ hf hd C.locks)
theorem z_dreturn {v : UInt64} (hd : decode (mMc M) pc = .ok (.dreturn, 1)) (hr : mMr M = some .double) (hq : Q (.inl (some (.double v))) h) : mZ l Θ d M pc loc [.double v] h Q :=
  mZ.ended hq (fun p e R s m args below meth c H locs cells slots Qc free ls C hQ hf => W.dret C.exec C.bytes (C.ret.trans hr) hQ hf hd C.locks)
theorem z_freturn {v : UInt32} (hd : decode (mMc M) pc = .ok (.freturn, 1)) (hr : mMr M = some .float) (hq : Q (.inl (some (.float v))) h) : mZ l Θ d M pc loc [.float v] h Q :=
  mZ.ended hq (fun p e R s m args below meth c H locs cells slots Qc free ls C hQ hf => W.fret C.exec C.bytes (C.ret.trans hr) hQ hf hd C.locks)
end HS
