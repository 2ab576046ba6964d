/-! the start: arrays of numbers -/
section SY
variable {s : State} {args : Array Value} {A : Nat → Prop} {tm : Term} {ty : FieldType} {N a : Nat} {f : Nat → Int32}
theorem txE (hgv : (Jvm.Cond.and given_1 narrow_1).before args s = true) (hA : ∀ a : Nat, a < s.heap.size → ¬ A a) (hN : N < 2 ^ 31) (h1 : Cond.arrayOf tm ty ∈ sFL) (h2 : Cond.eq (.length tm) (.int (Int32.ofNat N)) ∈ sFL) (h3 : sFL.filter (isEl tm) = (List.range N).map (fun j => Cond.eq (.elem tm (.int (Int32.ofNat j))) (.int (f j)))) : ∃ t : Nat, tm.eval args s none [] s = some (.ref t) ∧ va_T ty t N (fun j => .int (f j)) A s s.heap := by
  have hs : ∀ c ∈ sFL, c.before args s = true := flat_of_before _ hgv
  refine va_Tof hN (hs _ h1) (va_eqt (hs _ h2)) (fun j hj => ?_) hA
  refine va_eqt (hs _ ?_)
  have hm : Cond.eq (.elem tm (.int (Int32.ofNat j))) (.int (f j)) ∈ sFL.filter (isEl tm) := by
    rw [h3]
    exact List.mem_map.mpr ⟨j, List.mem_range.mpr hj, rfl⟩
  exact (List.mem_filter.mp hm).1
theorem el_110 : sFL.filter (isEl (sTm 110)) = (List.range (lTx.getD 0 []).length).map (fun i => Cond.eq (.elem (sTm 110) (.int (Int32.ofNat i))) (.int (nI ((lTx.getD 0 []).getD i 0)))) := by decide +kernel
theorem el_111 : sFL.filter (isEl (sTm 111)) = (List.range (lTx.getD 1 []).length).map (fun i => Cond.eq (.elem (sTm 111) (.int (Int32.ofNat i))) (.int (nI ((lTx.getD 1 []).getD i 0)))) := by decide +kernel
theorem el_112 : sFL.filter (isEl (sTm 112)) = (List.range (lTx.getD 2 []).length).map (fun i => Cond.eq (.elem (sTm 112) (.int (Int32.ofNat i))) (.int (nI ((lTx.getD 2 []).getD i 0)))) := by decide +kernel
theorem el_113 : sFL.filter (isEl (sTm 113)) = (List.range (lTx.getD 3 []).length).map (fun i => Cond.eq (.elem (sTm 113) (.int (Int32.ofNat i))) (.int (nI ((lTx.getD 3 []).getD i 0)))) := by decide +kernel
theorem el_114 : sFL.filter (isEl (sTm 114)) = (List.range (lTx.getD 4 []).length).map (fun i => Cond.eq (.elem (sTm 114) (.int (Int32.ofNat i))) (.int (nI ((lTx.getD 4 []).getD i 0)))) := by decide +kernel
theorem el_115 : sFL.filter (isEl (sTm 115)) = (List.range (lTx.getD 5 []).length).map (fun i => Cond.eq (.elem (sTm 115) (.int (Int32.ofNat i))) (.int (nI ((lTx.getD 5 []).getD i 0)))) := by decide +kernel
theorem el_116 : sFL.filter (isEl (sTm 116)) = (List.range (lTx.getD 6 []).length).map (fun i => Cond.eq (.elem (sTm 116) (.int (Int32.ofNat i))) (.int (nI ((lTx.getD 6 []).getD i 0)))) := by decide +kernel
theorem el_117 : sFL.filter (isEl (sTm 117)) = (List.range (lTx.getD 7 []).length).map (fun i => Cond.eq (.elem (sTm 117) (.int (Int32.ofNat i))) (.int (nI ((lTx.getD 7 []).getD i 0)))) := by decide +kernel
theorem el_118 : sFL.filter (isEl (sTm 118)) = (List.range (lTx.getD 8 []).length).map (fun i => Cond.eq (.elem (sTm 118) (.int (Int32.ofNat i))) (.int (nI ((lTx.getD 8 []).getD i 0)))) := by decide +kernel
end SY
