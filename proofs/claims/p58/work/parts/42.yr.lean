/-! rules of texts, of rows of bytes (old and new), of clone -/
/-- the law's own texts, as the lists of old things have them -/
def mTXT : Prop := ∀ (Θ : mW) (j : Nat), j < 9 → (90 + j, "java/lang/String", "coder", "B", Value.int 0) ∈ mOF Θ ∧ (90 + j, "java/lang/String", "value", "[B", Value.ref (mwad Θ (110 + j))) ∈ mOF Θ ∧ (110 + j, FieldType.byte, (lTx.getD j []).length, fun i : Nat => Value.int (nI ((lTx.getD j []).getD i 0))) ∈ mOA Θ ∧ (90 + j, "java/lang/String") ∈ mOO
theorem oTx_some {Θ : mW} {a j : Nat} (e : oTx Θ a = some j) : j < 9 ∧ mwad Θ (90 + j) = a := by
  unfold oTx at e
  have h1 := List.mem_of_find?_eq_some e
  have h2 := List.find?_some e
  exact ⟨List.mem_range.mp h1, of_decide_eq_true h2⟩
theorem oTb_some {Θ : mW} {a j : Nat} (e : oTb Θ a = some j) : j < 9 ∧ mwad Θ (110 + j) = a := by
  unfold oTb at e
  have h1 := List.mem_of_find?_eq_some e
  have h2 := List.find?_some e
  exact ⟨List.mem_range.mp h1, of_decide_eq_true h2⟩
/-- a row of bytes is cloned -/
def mCln (own : String) (i : Nat) : Prop := Cond.methodLink own i ⟨"[B", "clone", "()Ljava/lang/Object;"⟩ ∈ gtbl ∧ Cond.sameMethod "[B" "java/lang/Object" "clone" "()Ljava/lang/Object;" ∈ gtbl ∧ Cond.native ⟨"java/lang/Object", "clone", "()Ljava/lang/Object;"⟩ ∈ gtbl ∧ Cond.instanceMethod ⟨"java/lang/Object", "clone", "()Ljava/lang/Object;"⟩ ∈ gtbl ∧ Cond.selects "[B" ⟨"[B", "clone", "()Ljava/lang/Object;"⟩ ⟨"java/lang/Object", "clone", "()Ljava/lang/Object;"⟩ ∈ gtbl ∧ Cond.castable "[B" "java/lang/Cloneable" ∈ mNs
section YR
variable {ρ : Type} {l : Launch} {Θ : mW} {d : Nat} {M : mM} {pc : Nat} {loc : List (Option Value)} {stk : List Value} {h : mH} {tr : ρ → mO × mH} {p : Option ρ} {Q : mO → mH → Prop}
theorem y_getSv' (hT : mTXT) {i q : Nat} {F : Nat → Option ρ} (hd : decode (mMc M) pc = .ok (.getfield i, 3)) (hf : mFl (mMy M).cls i 9 0) (hw : Cond.fieldLink (mMy M).cls i "java/lang/String" "value" "[B" ∈ gtbl) (kk : ∀ v, mY l Θ d M (pc + 3) loc (.ref v :: stk) h tr (F v)) : mY l Θ d M pc loc (.ref q :: stk) h tr (bo (rSv Θ h q) F) := fun r hr => by
  obtain ⟨v, e, hr2⟩ := bo_eq hr
  unfold rSv at e
  split at e
  · rename_i w hw2
    cases e
    obtain ⟨fs, hg, hv⟩ := rV_eq (rA_eq hw2)
    exact z_getfield hd hf hg hv (kk _ r hr2)
  · split at e
    · rename_i j hj
      cases e
      obtain ⟨j9, rfl⟩ := oTx_some hj
      exact z_oldget hd hw (hT Θ j j9).2.1 (kk _ r hr2)
    · cases e
theorem y_getSc' (hT : mTXT) {i q : Nat} {F : Int32 → Option ρ} (hd : decode (mMc M) pc = .ok (.getfield i, 3)) (hf : mFl (mMy M).cls i 9 1) (hw : Cond.fieldLink (mMy M).cls i "java/lang/String" "coder" "B" ∈ gtbl) (kk : ∀ v, mY l Θ d M (pc + 3) loc (.int v :: stk) h tr (F v)) : mY l Θ d M pc loc (.ref q :: stk) h tr (bo (rSc Θ h q) F) := fun r hr => by
  obtain ⟨v, e, hr2⟩ := bo_eq hr
  unfold rSc at e
  split at e
  · rename_i w hw2
    cases e
    obtain ⟨fs, hg, hv⟩ := rV_eq (rI_eq hw2)
    exact z_getfield hd hf hg hv (kk _ r hr2)
  · split at e
    · rename_i j hj
      cases e
      obtain ⟨j9, rfl⟩ := oTx_some hj
      exact z_oldget hd hw (hT Θ j j9).1 (kk _ r hr2)
    · cases e
theorem y_gS' (hT : mTXT) (h9 : ∃ r : vw_C, mCl[9]? = some r ∧ r.1 = "java/lang/String") {q : Nat} (kk : mRecv Θ h q "java/lang/String" → mY l Θ d M pc loc stk h tr p) : mY l Θ d M pc loc stk h tr (gS Θ h q p) := fun r hr => by
  unfold gS at hr
  split at hr
  · rename_i c fs hg
    split at hr
    · rename_i hc
      subst hc
      obtain ⟨x, x1, x2⟩ := h9
      exact kk (Or.inl ⟨9, _, x, hg, x1, x2⟩) r hr
    · cases hr
  · cases hr
  · split at hr
    · rename_i j hj
      obtain ⟨j9, rfl⟩ := oTx_some hj
      exact kk (Or.inr ⟨_, (hT Θ j j9).2.2.2, rfl⟩) r hr
    · cases hr
/-- a row of bytes, new or old -/
theorem rSB_eq (hT : mTXT) {q n : Nat} {f : Nat → Int32} (e : rSB Θ h q = some (n, f)) : gt Θ h q = some (aI 4 n f) ∨ ∃ j, (j, FieldType.byte, n, fun i : Nat => Value.int (f i)) ∈ mOA Θ ∧ mwad Θ j = q := by
  unfold rSB at e
  split at e
  · rename_i t n' f' hg
    split at e
    · rename_i ht
      cases e
      subst ht
      exact Or.inl hg
    · cases e
  · cases e
  · split at e
    · rename_i j hj
      cases e
      obtain ⟨j9, rfl⟩ := oTb_some hj
      exact Or.inr ⟨_, (hT Θ j j9).2.2.1, rfl⟩
    · cases e
theorem y_alens' (hT : mTXT) {q : Nat} {F : Int32 → Option ρ} (hd : decode (mMc M) pc = .ok (.arraylength, 1)) (kk : ∀ v, mY l Θ d M (pc + 1) loc (.int v :: stk) h tr (F v)) : mY l Θ d M pc loc (.ref q :: stk) h tr (bo (aNs Θ h q) F) := fun r hr => by
  obtain ⟨v, e, hr2⟩ := bo_eq hr
  unfold aNs at e
  obtain ⟨⟨n, f⟩, e1, e2⟩ := bo_eq e
  cases e2
  rcases rSB_eq hT e1 with hg | ⟨j, hj, rfl⟩
  · exact z_alen (by decide) hd hg rfl (kk _ r hr2)
  · exact z_oldalen hd hj rfl (kk _ r hr2)
theorem y_balds' (hT : mTXT) {q : Nat} {x : Int32} {F : Int32 → Option ρ} (hd : decode (mMc M) pc = .ok (.baload, 1)) (kk : ∀ v, mY l Θ d M (pc + 1) loc (.int v :: stk) h tr (F v)) : mY l Θ d M pc loc (.int x :: .ref q :: stk) h tr (bo (aRs Θ h q x) F) := fun r hr => by
  obtain ⟨v, e, hr2⟩ := bo_eq hr
  unfold aRs at e
  obtain ⟨⟨n, f⟩, e1, e2⟩ := bo_eq e
  split at e2
  · rename_i hx
    cases e2
    rcases rSB_eq hT e1 with hg | ⟨j, hj, rfl⟩
    · exact z_bald hd hg hx rfl (kk _ r hr2)
    · exact z_oldbald hd hj hx rfl (kk _ r hr2)
  · cases e2
theorem y_fcmp {x y : UInt32} {op : CmpOp} {v : Int32} (hd : decode (mMc M) pc = .ok (.fcmp op, 1)) (hv : Op.cmpValue (FP.fcmp x y) op = v) (k : mY l Θ d M (pc + 1) loc (.int v :: stk) h tr p) : mY l Θ d M pc loc (.float y :: .float x :: stk) h tr p := fun r hr =>
  mZ.pure (fun p e R s m args below meth c H locs cells slots Q ls C hL hS kk => lv_fcmp C.exec C.bytes hd (hv ▸ kk ls hL)) (k r hr)
theorem z_clone {i q n : Nat} {f : Nat → Int32} (hd : decode (mMc M) pc = .ok (.invokevirtual i, 3)) (hw : mCln (mMy M).cls i) (hg : gt Θ h q = some (aI 4 n f)) (hfit : ∀ j, j < n → fits .byte (.int (f j)) = true) (h8 : (stk.map fun v => v.category).sum ≤ 8) (hd1 : 1 ≤ d) (kk : mZ l Θ d M (pc + 3) loc (.ref (mwB Θ + h.length) :: stk) (h ++ [aI 4 n f]) Q) : mZ l Θ d M pc loc (.ref q :: stk) h Q := by
  have hz : msz1 (aI 4 n f) = n := rfl
  refine mZ.heap (by simp) (by rw [msz_app]; omega) (fun p e R s m args below meth c H locs cells slots Q ls C hR hL hS c1 c2 kk => ?_) kk
  rw [show (h ++ [aI 4 n f]).length - h.length = 1 by simp] at c1 kk
  rw [show msz (h ++ [aI 4 n f]) - msz h = n by rw [msz_app, hz]; omega] at c2 kk
  have hfr := C.frames
  have hrm := C.room
  have hc0 : H[q]? = some (vp_cell (mwtC Θ 4) (n, .inl f)) := hR.get hg
  have hty : (mTyC Θ)[4]? = some (mwtC Θ 4, .byte) := rfl
  obtain ⟨-, kS, hkS, compS, hkindS⟩ := (C.ks.1.2 4 _ hty).1 0 (fun _ => .null)
  have hnm : s.vm.findClass "[B" = some (mwtC Θ 4) := (C.ks.1.2 4 _ hty).2
  obtain ⟨c0, t0', f1, f2, f3⟩ := Cond.castable_spec (va_Nw.use (A := args) rfl (C.ks.2.2.2.2.2.2.1 _ hw.2.2.2.2.2))
  cases hnm.symm.trans f1
  have hsz : (vp_cell (mwtC Θ 4) (n, .inl f)).slots.size = n := arrV_size _ _ _
  intro T hT X
  obtain ⟨-, kA, hkA, comp, hkind⟩ := State.isArrayOf_alike X.warmed.alike ((C.ks.1.2 4 _ hty).1 0 (fun _ => .null))
  obtain ⟨vm', X', st⟩ := X.cloneArray C.exec C.own (C.hts _ hw.1) (C.hts _ hw.2.1) (C.hts _ hw.2.2.1) (C.hts _ hw.2.2.2.1) (C.hts _ hw.2.2.2.2.1) (a := q) (cell := vp_cell (mwtC Θ 4) (n, .inl f)) (by rw [hT]; exact hc0) (fun k h => by cases h) (fun h => by cases h) hnm f2 f3
    (fun i v hv => by
      have hk' : T.vm.classes[mwtC Θ 4]? = some kA := hkA
      have hi : i < n := by
        have := (Array.getElem?_eq_some_iff.mp hv).1
        rw [hsz] at this
        exact this
      have hv2 : v = .int (f i) := by
        have e : (arrV (mwtC Θ 4) n (fun j => .int (f j))).slots[i]? = some v := hv
        rw [arrV_read _ _ hi] at e
        exact (Option.some.inj e).symm
      have := hfit i hi
      rw [← hv2] at this
      show T.fitsSlot (mwtC Θ 4) .none i v = true
      simpa [State.fitsSlot, State.slotType?, hk', hkind] using this)
    (g := F0 m pc ls (.ref q :: stk)) rfl (by rw [C.maxl]; exact hL.1) (rest := stk) rfl (by rw [C.bytes]; exact hd) (by omega) (by show 2 * 0 + _ + 14 ≤ _; omega) c1 (by rw [hsz]; exact c2) (hloader := Vm.clonesLoader_of_array hkS hkindS)
  rw [hsz] at X'
  generalize hH1 : H.push (vp_cell (mwtC Θ 4) (n, .inl f)) = H1
  have z1 : H1.size = H.size + 1 := by rw [← hH1, Array.size_push]
  have e1 : H1[H.size]? = some (vp_cell (mwtC Θ 4) (n, .inl f)) := by rw [← hH1, Array.getElem?_push_size]
  have o1 : ∀ q : Nat, q < H.size → H1[q]? = H[q]? := fun q hq => by rw [← hH1, Array.getElem?_push, if_neg (Nat.ne_of_lt hq)]
  obtain ⟨r1, r2⟩ := mX.newarr (t := 4) (N' := n) (a0 := (n, .inl f)) hR hS z1 o1 e1
  obtain ⟨t, b1, b2⟩ := kk H1 locs ls r1 hL r2 ((T.setVm vm').pushCell (vp_cell (mwtC Θ 4) (n, .inl f))) (by rw [← hH1, ← hT]; rfl) X'
  refine ⟨t, st t ?_, b2⟩
  rw [hT, hR.1]
  exact b1
theorem y_clone {i q : Nat} {F : Nat → mH → Option ρ} (hd : decode (mMc M) pc = .ok (.invokevirtual i, 3)) (hw : mCln (mMy M).cls i) (h8 : (stk.map fun v => v.category).sum ≤ 8) (hd1 : 1 ≤ d) (kk : ∀ a h1, (∃ n f, gt Θ h1 a = some (aI 4 n f)) → mY l Θ d M (pc + 3) loc (.ref a :: stk) h1 tr (F a h1)) : mY l Θ d M pc loc (.ref q :: stk) h tr (aCl Θ h 4 q F) := fun r hr => by
  unfold aCl at hr
  split at hr
  · rename_i t' n f hg
    split at hr
    · rename_i hc
      obtain ⟨rfl, ha⟩ := hc
      exact z_clone hd hw hg (fun j hj => List.all_eq_true.mp ha j (List.mem_range.mpr hj)) h8 hd1 (kk _ _ ⟨n, f, gt_new⟩ r hr)
    · cases hr
  · cases hr
theorem y_castB {i q : Nat} (hd : decode (mMc M) pc = .ok (.checkcast i, 3)) (hw : Cond.classLink (mMy M).cls i "[B" ∈ gtbl) (hg : ∃ n f, gt Θ h q = some (aI 4 n f)) (k : mY l Θ d M (pc + 3) loc (.ref q :: stk) h tr p) : mY l Θ d M pc loc (.ref q :: stk) h tr p := fun r hr => by
  obtain ⟨n, f, hg⟩ := hg
  have hty : (mTyC Θ)[4]? = some (mwtC Θ 4, .byte) := rfl
  exact mZ.read (loc2 := loc) (fun p e R s m args below meth c H locs cells slots Q ls C hR hL hS kk => va_castA C.exec C.bytes C.own (C.hts _ hw) (hR.P hg) 0 rfl (C.ks.1.2 4 _ hty).2 hd kk) (k r hr)
theorem z_acopyO {i n0 n1 j0 q1 : Nat} {f g : Nat → Int32} {sp dp n : Int32} (hd : decode (mMc M) pc = .ok (.invokestatic i, 3)) (w1 : Cond.methodLink (mMy M).cls i arraycopyName ∈ gtbl) (w2 : Cond.native arraycopyName ∈ gtbl) (w3 : Cond.static arraycopyName ∈ gtbl) (w4 : Cond.initialized "java/lang/System" ∈ gtbl)
    (ha0 : (j0, FieldType.byte, n0, fun i : Nat => Value.int (f i)) ∈ mOA Θ) (ha1 : gt Θ h q1 = some (aI 4 n1 g)) (h1 : ¬ sp < 0) (h2 : ¬ dp < 0) (h3 : ¬ n < 0) (h4 : sp.toNatClampNeg + n.toNatClampNeg ≤ n0) (h5 : dp.toNatClampNeg + n.toNatClampNeg ≤ n1) (hfit : ∀ i, i < n.toNatClampNeg → fits .byte (.int (f (sp.toNatClampNeg + i))) = true)
    (h8 : (stk.map fun v => v.category).sum ≤ 8) (hd1 : 1 ≤ d)
    (kk : mZ l Θ d M (pc + 3) loc stk (pt Θ h q1 (aI 4 n1 (va_cpy f g sp.toNatClampNeg dp.toNatClampNeg n.toNatClampNeg))) Q) : mZ l Θ d M pc loc (.int n :: .int dp :: .ref q1 :: .int sp :: .ref (mwad Θ j0) :: stk) h Q := by
  have hl9 : (pt Θ h q1 (aI 4 n1 (va_cpy f g sp.toNatClampNeg dp.toNatClampNeg n.toNatClampNeg))).length = h.length := pt_length
  have hm9 : msz (pt Θ h q1 (aI 4 n1 (va_cpy f g sp.toNatClampNeg dp.toNatClampNeg n.toNatClampNeg))) = msz h := msz_pt ha1 rfl
  refine mZ.heap (by rw [hl9]; exact Nat.le_refl _) (by rw [hm9]; exact Nat.le_refl _) (fun p e R s m args below meth c H locs cells slots Q ls C hR hL hS c1 c2 kk => ?_) kk
  have hfr := C.frames
  have hrm := C.room
  have hW9 : nativeFrameWords "java/lang/System" "arraycopy" 5 ≤ 40 := by decide +kernel
  have hty : (mTyC Θ)[4]? = some (mwtC Θ 4, .byte) := rfl
  intro T hT X
  obtain ⟨cs, hc0, ⟨v0, k0, hk0, cm0, hkk0⟩, u0, sz9, -, sl9, -⟩ := (C.ks.2.2.1 _ ha0).kept hS.2.1
  have sz0 : n0 ≤ cs.slots.size := sz9
  have sl0 : ∀ j : Nat, j < n0 → cs.slots[j]? = some (.int (f j)) := sl9
  have hc1 : H[q1]? = some (vp_cell (mwtC Θ 4) (n1, .inl g)) := hR.get ha1
  obtain ⟨-, k1, hk1, cm1, hkk1⟩ := (C.ks.1.2 4 _ hty).1 n1 (fun j => .int (g j))
  obtain ⟨vm', X', step⟩ := X.arraycopy C.exec C.own (C.hts _ w1) (C.hts _ w2) (C.hts _ w3) (C.hts _ w4) (src := mwad Θ j0) (dst := q1) (cs := cs) (cd := vp_cell (mwtC Θ 4) (n1, .inl g)) (srcPos := sp) (destPos := dp) (n := n) (by rw [hT]; exact hc0) (by rw [hT]; exact hc1)
    v0 (fun _ h => by cases h) u0 (fun h => by cases h) hk0 hk1 hkk0 hkk1 (by simp [refKind]) h1 h2 h3
    (by rw [mNN sp h1, mNN n h3]; omega)
    (by rw [mNN dp h2, mNN n h3]; show ¬ _ > ((arrV (mwtC Θ 4) n1 (fun j => .int (g j))).slots.size : Int); rw [arrV_size]; omega)
    (fun vm₁ _ i hi => by
      have e : cs.slots.getD (sp.toNatClampNeg + i) .null = .int (f (sp.toNatClampNeg + i)) := by
        rw [Array.getD_eq_getD_getElem?, sl0 _ (by omega)]
        rfl
      refine ⟨?_, ?_⟩
      · rw [e]
        exact hfit i hi
      · rw [e]
        exact trivial)
    (g := F0 m pc ls (.int n :: .int dp :: .ref q1 :: .int sp :: .ref (mwad Θ j0) :: stk)) rfl (by rw [C.maxl]; exact hL.1) (rest := stk) rfl (by rw [C.bytes]; exact hd) (by omega) (by show 2 * 0 + _ + _ ≤ _; omega)
  have e1 : copied cs (vp_cell (mwtC Θ 4) (n1, .inl g)) sp dp n = vp_cell (mwtC Θ 4) (n1, .inl (va_cpy f g sp.toNatClampNeg dp.toNatClampNeg n.toNatClampNeg)) := va_copiedX (fun z => .int z) cs _ f g sl0 h4
  rw [e1] at X' step
  have hl : q1 < H.size := (Array.getElem?_eq_some_iff.mp hc1).1
  have hheap : ((T.setVm vm').setCell q1 (vp_cell (mwtC Θ 4) (n1, .inl (va_cpy f g sp.toNatClampNeg dp.toNatClampNeg n.toNatClampNeg)))).heap = H.setIfInBounds q1 (vp_cell (mwtC Θ 4) (n1, .inl (va_cpy f g sp.toNatClampNeg dp.toNatClampNeg n.toNatClampNeg))) := by rw [← hT]; rfl
  have oq : ∀ q : Nat, q ≠ q1 → (H.setIfInBounds q1 (vp_cell (mwtC Θ 4) (n1, .inl (va_cpy f g sp.toNatClampNeg dp.toNatClampNeg n.toNatClampNeg))))[q]? = H[q]? := fun q hq => by simp [Array.getElem?_setIfInBounds, Ne.symm hq]
  have hq1 : mwA Θ q1 := (gt_some ha1).1
  rw [hl9, hm9, Nat.sub_self, Nat.sub_self, Nat.add_zero, Nat.add_zero] at kk
  obtain ⟨t9, a1, b1⟩ := kk (H.setIfInBounds q1 (vp_cell (mwtC Θ 4) (n1, .inl (va_cpy f g sp.toNatClampNeg dp.toNatClampNeg n.toNatClampNeg)))) _ ls
    (hR.put ha1 (by simp) oq (show (H.setIfInBounds q1 _)[q1]? = some _ by simp [Array.getElem?_setIfInBounds, hl])) hL ⟨by simp; exact hS.1, fun q g1 g2 => by
      rw [oq q (fun e => g2 (by rw [e]; exact hq1))]
      exact hS.2.1 q g1 g2, fun q hq => by
      rcases List.mem_append.mp hq with h | h
      · exact hS.2.2 q h
      · obtain ⟨z, -, hz⟩ := List.mem_map.mp h
        rw [← hz]
        exact hq1⟩ _ hheap X'
  exact ⟨t9, step t9 a1, b1⟩
theorem y_acopyS' (hT : mTXT) {i q0 q1 : Nat} {sp dp n : Int32} {F : mH → Option ρ} (hd : decode (mMc M) pc = .ok (.invokestatic i, 3)) (w1 : Cond.methodLink (mMy M).cls i arraycopyName ∈ gtbl) (w2 : Cond.native arraycopyName ∈ gtbl) (w3 : Cond.static arraycopyName ∈ gtbl) (w4 : Cond.initialized "java/lang/System" ∈ gtbl) (h8 : (stk.map fun v => v.category).sum ≤ 8) (hd1 : 1 ≤ d) (kk : ∀ h1, mY l Θ d M (pc + 3) loc stk h1 tr (F h1)) : mY l Θ d M pc loc (.int n :: .int dp :: .ref q1 :: .int sp :: .ref q0 :: stk) h tr (bo (cpBs Θ h q0 sp q1 dp n) F) := fun r hr => by
  obtain ⟨h1, e, hr2⟩ := bo_eq hr
  unfold cpBs at e
  obtain ⟨⟨n0, f⟩, e1, e2⟩ := bo_eq e
  split at e2
  · rename_i t1 n1 g hg1
    split at e2
    · rename_i hc
      obtain ⟨rfl, ⟨a, b, c⟩, a', b', hall⟩ := hc
      cases e2
      have ft : ∀ i, i < n.toNatClampNeg → fits .byte (.int (f (sp.toNatClampNeg + i))) = true := fun i hi => List.all_eq_true.mp hall i (List.mem_range.mpr hi)
      rcases rSB_eq hT e1 with hg | ⟨j, hj, rfl⟩
      · exact z_acopy hd w1 w2 w3 w4 (ty := .byte) (fun _ => rfl) rfl hg hg1 a b c a' b' ft h8 hd1 (kk _ r hr2)
      · exact z_acopyO hd w1 w2 w3 w4 hj hg1 a b c a' b' ft h8 hd1 (kk _ r hr2)
    · cases e2
  · cases e2
end YR
section OV2
variable {l : Launch} {Θ : mW} {d : Nat} {M : mM} {pc : Nat} {loc : List (Option Value)} {stk rest : List Value} {h : mH}
theorem c_ov {i n dj b : Nat} {M' M0 : mM} {C0 : String} {As : List Value} {α : Type} {tv : α → Option Value} {p : Option (α × mH)} (hd : decode (mMc M) pc = .ok (.invokevirtual i, 3)) (hd9 : mCd M' n) (hd0 : mCd M0 n) (hw : mCo (mMy M).cls i M' M0 C0) (hrc : mRecv Θ h b C0) (hn : As.length = n) (hst : stk = As.reverse ++ .ref b :: rest) (h8 : (rest.map fun v => v.category).sum ≤ 8) (hdj : dj + 1 ≤ d) (hT : mMs l Θ dj M' (.ref b :: As) h (tR tv) p) : mK l Θ d M pc loc stk rest h (tR tv) p := fun r hr => by
  obtain ⟨o1, h1, q, x⟩ := hT r hr
  cases q
  exact mCall.ov hd hd9 hd0 hw hrc hn hst h8 hdj x
end OV2
