/-! System.arraycopy between two arrays of numbers (follows the kit's row of it, with the heap said exactly) -/
section AC
variable {l : Launch} {Θ : mW} {d : Nat} {M : mM} {pc : Nat} {loc : List (Option Value)} {stk : List Value} {h : mH} {o : mO} {h' : mH} {Q : mO → mH → Prop}
theorem mNN : ∀ z : Int32, ¬ z < 0 → z.toInt = (z.toNatClampNeg : Int) := by
  intro z hz
  have hz0 : (0 : Int) ≤ z.toInt := by
    have := Int32.not_lt.mp hz
    simpa using Int32.le_iff_toInt_le.mp this
  show z.toInt = ((z.toInt.toNat : Nat) : Int)
  omega
theorem z_acopy {i t n0 n1 q0 q1 : Nat} {ty : FieldType} {f g : Nat → Int32} {sp dp n : Int32} (hd : decode (mMc M) pc = .ok (.invokestatic i, 3)) (w1 : Cond.methodLink (mMy M).cls i arraycopyName ∈ gtbl) (w2 : Cond.native arraycopyName ∈ gtbl) (w3 : Cond.static arraycopyName ∈ gtbl) (w4 : Cond.initialized "java/lang/System" ∈ gtbl)
    (ht : ∀ Θ : mW, (mTyC Θ)[t]? = some (mwtC Θ t, ty)) (hprim : refKind ty = false) (ha0 : gt Θ h q0 = some (aI t n0 f)) (ha1 : gt Θ h q1 = some (aI t n1 g)) (h1 : ¬ sp < 0) (h2 : ¬ dp < 0) (h3 : ¬ n < 0) (h4 : sp.toNatClampNeg + n.toNatClampNeg ≤ n0) (h5 : dp.toNatClampNeg + n.toNatClampNeg ≤ n1) (hfit : ∀ i, i < n.toNatClampNeg → fits ty (.int (f (sp.toNatClampNeg + i))) = true)
    (h8 : (stk.map fun v => v.category).sum ≤ 8) (hd1 : 1 ≤ d)
    (kk : mZ l Θ d M (pc + 3) loc stk (pt Θ h q1 (aI t n1 (va_cpy f g sp.toNatClampNeg dp.toNatClampNeg n.toNatClampNeg))) Q) : mZ l Θ d M pc loc (.int n :: .int dp :: .ref q1 :: .int sp :: .ref q0 :: stk) h Q := by
  have hl9 : (pt Θ h q1 (aI t n1 (va_cpy f g sp.toNatClampNeg dp.toNatClampNeg n.toNatClampNeg))).length = h.length := pt_length
  have hm9 : msz (pt Θ h q1 (aI t n1 (va_cpy f g sp.toNatClampNeg dp.toNatClampNeg n.toNatClampNeg))) = msz h := msz_pt ha1 rfl
  refine mZ.heap (by rw [hl9]; exact Nat.le_refl _) (by rw [hm9]; exact Nat.le_refl _) (fun p e R s m args below meth c H locs cells slots Q ls C hR hL hS c1 c2 kk => ?_) kk
  have hfr := C.frames
  have hrm := C.room
  have hW9 : nativeFrameWords "java/lang/System" "arraycopy" 5 ≤ 40 := by decide +kernel
  intro T hT X
  have hc0 : H[q0]? = some (vp_cell (mwtC Θ t) (n0, .inl f)) := hR.get ha0
  have hc1 : H[q1]? = some (vp_cell (mwtC Θ t) (n1, .inl g)) := hR.get ha1
  obtain ⟨-, k0, hk0, cm0, hkk0⟩ := (C.ks.1.2 t _ (ht Θ)).1 n0 (fun j => .int (f j))
  obtain ⟨-, k1, hk1, cm1, hkk1⟩ := (C.ks.1.2 t _ (ht Θ)).1 n1 (fun j => .int (g j))
  obtain ⟨vm', X', step⟩ := X.arraycopy C.exec C.own (C.hts _ w1) (C.hts _ w2) (C.hts _ w3) (C.hts _ w4) (src := q0) (dst := q1) (cs := vp_cell (mwtC Θ t) (n0, .inl f)) (cd := vp_cell (mwtC Θ t) (n1, .inl g)) (srcPos := sp) (destPos := dp) (n := n) (by rw [hT]; exact hc0) (by rw [hT]; exact hc1)
    (fun _ h => by cases h) (fun _ h => by cases h) (fun h => by cases h) (fun h => by cases h) hk0 hk1 hkk0 hkk1 (by simp [hprim]) h1 h2 h3
    (by rw [mNN sp h1, mNN n h3]; show ¬ _ > ((arrV (mwtC Θ t) n0 (fun j => .int (f j))).slots.size : Int); rw [arrV_size]; omega)
    (by rw [mNN dp h2, mNN n h3]; show ¬ _ > ((arrV (mwtC Θ t) n1 (fun j => .int (g j))).slots.size : Int); rw [arrV_size]; omega)
    (fun vm₁ _ i hi => by
      have e : (vp_cell (mwtC Θ t) (n0, .inl f)).slots.getD (sp.toNatClampNeg + i) .null = .int (f (sp.toNatClampNeg + i)) := by
        show (arrV (mwtC Θ t) n0 (fun j => .int (f j))).slots.getD _ _ = _
        rw [Array.getD_eq_getD_getElem?, arrV_read _ _ (by omega)]
        rfl
      refine ⟨?_, ?_⟩
      · rw [e]
        exact hfit i hi
      · rw [e]
        exact trivial)
    (g := F0 m pc ls (.int n :: .int dp :: .ref q1 :: .int sp :: .ref q0 :: stk)) rfl (by rw [C.maxl]; exact hL.1) (rest := stk) rfl (by rw [C.bytes]; exact hd) (by omega) (by show 2 * 0 + _ + _ ≤ _; omega)
  have e1 : copied (vp_cell (mwtC Θ t) (n0, .inl f)) (vp_cell (mwtC Θ t) (n1, .inl g)) sp dp n = vp_cell (mwtC Θ t) (n1, .inl (va_cpy f g sp.toNatClampNeg dp.toNatClampNeg n.toNatClampNeg)) := va_copied (fun z => .int z) _ _ f g h4
  rw [e1] at X' step
  have hl : q1 < H.size := (Array.getElem?_eq_some_iff.mp hc1).1
  have hheap : ((T.setVm vm').setCell q1 (vp_cell (mwtC Θ t) (n1, .inl (va_cpy f g sp.toNatClampNeg dp.toNatClampNeg n.toNatClampNeg)))).heap = H.setIfInBounds q1 (vp_cell (mwtC Θ t) (n1, .inl (va_cpy f g sp.toNatClampNeg dp.toNatClampNeg n.toNatClampNeg))) := by rw [← hT]; rfl
  have oq : ∀ q : Nat, q ≠ q1 → (H.setIfInBounds q1 (vp_cell (mwtC Θ t) (n1, .inl (va_cpy f g sp.toNatClampNeg dp.toNatClampNeg n.toNatClampNeg))))[q]? = H[q]? := fun q hq => by simp [Array.getElem?_setIfInBounds, Ne.symm hq]
  have hq1 : mwA Θ q1 := (gt_some ha1).1
  rw [hl9, hm9, Nat.sub_self, Nat.sub_self, Nat.add_zero, Nat.add_zero] at kk
  obtain ⟨t9, a1, b1⟩ := kk (H.setIfInBounds q1 (vp_cell (mwtC Θ t) (n1, .inl (va_cpy f g sp.toNatClampNeg dp.toNatClampNeg n.toNatClampNeg)))) _ ls
    (hR.put ha1 (by simp) oq (show (H.setIfInBounds q1 _)[q1]? = some _ by simp [Array.getElem?_setIfInBounds, hl])) hL ⟨by simp; exact hS.1, fun q g1 g2 => by
      rw [oq q (fun e => g2 (by rw [e]; exact hq1))]
      exact hS.2.1 q g1 g2, fun q hq => by
      rcases List.mem_append.mp hq with h | h
      · exact hS.2.2 q h
      · obtain ⟨z, -, hz⟩ := List.mem_map.mp h
        rw [← hz]
        exact hq1⟩ _ hheap X'
  exact ⟨t9, step t9 a1, b1⟩
end AC
