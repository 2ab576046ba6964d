/-! the start: the words of gtbl -/
section SV0
variable {s : State} {args : Array Value}
theorem st_sel {C : String} {y0 y : MethodName} (h0 : (Cond.selects C y0 y0).before args s = true) (hc : y.cls = y0.cls) (hy : y.cls ≠ "java/lang/invoke/MethodHandle" ∧ y.cls ≠ "java/lang/invoke/VarHandle") (hpriv : (Cond.privateMethod y).before args s = true) (hinst : (Cond.instanceMethod y).before args s = true) : (Cond.selects C y y).before args s = true := by
  obtain ⟨c, r0, m0, q1, q2, q3, q4, k0, q5, q6⟩ := Cond.selects_spec h0
  obtain ⟨mk, methM, hnamed, hmethM, -, -⟩ := Cond.instanceMethod_spec hinst
  have hfound : s.methodFound? y.cls y.name y.desc = some mk := State.methodFound?_of_named hnamed hy
  have f1 := findClass_of_methodNamed hnamed
  have f2 := findClass_of_methodNamed q3
  rw [hc] at f1
  have hcls : mk.cls = m0.cls := Option.some.inj (f1.symm.trans f2)
  have hsel : selectMethod {} s.vm c mk = .method mk := selectMethod_private hmethM (Cond.privateMethod_at hpriv mk methM hnamed hmethM)
  simp only [Cond.before, Cond.holds, Cond.value, q1, hfound, hnamed, hsel, hcls, q5]
  simp; exact q6
theorem st_gtbl (hts : ∀ w ∈ lw_tbl, w.before args s = true) : ∀ w ∈ gtbl, w.before args s = true := by
  intro w hw
  have hw2 : w ∈ mTbl := (List.mem_filter.mp hw).1
  rcases List.mem_append.mp hw2 with h | h
  · exact hts w h
  · simp only [mSelX, List.mem_cons, List.not_mem_nil, or_false] at h
    have b0 := hts (.selects "java/lang/StringBuilder" ⟨"java/lang/AbstractStringBuilder", "isLatin1", "()Z"⟩ ⟨"java/lang/AbstractStringBuilder", "isLatin1", "()Z"⟩) (by decide +kernel)
    rcases h with rfl | rfl | rfl | rfl
    · exact st_sel b0 rfl ⟨by decide +kernel, by decide +kernel⟩ (hts _ (by decide +kernel)) (hts _ (by decide +kernel))
    · exact st_sel b0 rfl ⟨by decide +kernel, by decide +kernel⟩ (hts _ (by decide +kernel)) (hts _ (by decide +kernel))
    · exact st_sel b0 rfl ⟨by decide +kernel, by decide +kernel⟩ (hts _ (by decide +kernel)) (hts _ (by decide +kernel))
    · exact st_sel b0 rfl ⟨by decide +kernel, by decide +kernel⟩ (hts _ (by decide +kernel)) (hts _ (by decide +kernel))
theorem st_nw (hts : ∀ w ∈ lw_tbl, w.before args s = true) : ∀ w ∈ mNs, w.before args s = true := by
  intro w hw
  obtain ⟨h1, h2⟩ := List.mem_filter.mp hw
  rcases List.mem_append.mp h1 with h | h
  · exact hts w h
  · simp only [mSelX, List.mem_cons, List.not_mem_nil, or_false] at h
    rcases h with rfl | rfl | rfl | rfl <;> cases h2
end SV0
