/-! the start: more words, statics of which only 'a thing or null' is said -/
section SW
variable {s : State} {args : Array Value} {A : Nat → Prop}
theorem mNs_on : ∀ w : Cond, mIsN w = true → w.onTables = true := by
  intro w hw
  cases w <;> first | rfl | cases hw
theorem st_nws (hts : ∀ w ∈ lw_tbl, w.before args s = true) : ∀ w ∈ mNs, va_Nw w s := fun w hw => va_tabs (mNs_on w (List.mem_filter.mp hw).2) rfl (st_nw hts w hw)
theorem st_ao (hts : ∀ w ∈ lw_tbl, w.before args s = true) : ∀ C ∈ mAo, va_AO C s := by
  intro C hC
  simp only [mAo, List.mem_cons, List.not_mem_nil, or_false] at hC
  rcases hC with rfl | rfl
  · exact va_AO.of (hts _ (by decide +kernel))
  · exact va_AO.of (hts _ (by decide +kernel))
theorem st_zq1 (hts : ∀ w ∈ lw_tbl, w.before args s = true) (hgv : (Jvm.Cond.and given_1 narrow_1).before args s = true) (hA : ∀ a : Nat, a < s.heap.size → ¬ A a) : vx_Zq Bundle.tN "UNASSIGNED_STACK" Bundle.steD A s s.heap := by
  have hs := flat_of_before _ hgv
  exact vx_Zqof (hts _ (by decide +kernel)) (hts _ (by decide +kernel)) (hs _ (by decide +kernel)) hA
theorem st_zq2 (hts : ∀ w ∈ lw_tbl, w.before args s = true) (hgv : (Jvm.Cond.and given_1 narrow_1).before args s = true) (hA : ∀ a : Nat, a < s.heap.size → ¬ A a) : vx_Zq Bundle.tN "SUPPRESSED_SENTINEL" Bundle.listD A s s.heap := by
  have hs := flat_of_before _ hgv
  exact vx_Zqof (hts _ (by decide +kernel)) (hts _ (by decide +kernel)) (hs _ (by decide +kernel)) hA
end SW
