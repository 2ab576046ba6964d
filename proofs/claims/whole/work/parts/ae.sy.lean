/-! the start: arrays of numbers -/
section SY
variable {s : State} {args : Array Value} {A : Nat → Prop} {tm : Term} {ty : FieldType} {N a : Nat} {f : Nat → Int32}
theorem txE (hgv : (Jvm.Cond.and given_1 narrow_1).before args s = true) (hA : ∀ a : Nat, a < s.heap.size → ¬ A a) (hN : N < 2 ^ 31) (h1 : Cond.arrayOf tm ty ∈ sFL) (h2 : Cond.eq (.length tm) (.int (Int32.ofNat N)) ∈ sFL) (h3 : sFL.filter (isEl tm) = (List.range N).map (fun j => Cond.eq (.elem tm (.int (Int32.ofNat j))) (.int (f j)))) : ∃ t : Nat, tm.eval args s none [] s = some (.ref t) ∧ va_T ty t N (fun j => .int (f j)) A s s.heap := by
  have hs : ∀ c ∈ sFL, c.before args s = true := flat_of_before _ hgv
  refine va_Tof hN (hs _ h1) (va_eqt (hs _ h2)) (fun j hj => ?_) hA
  refine va_eqt (hs _ ?_)
  have hm : Cond.eq (.elem tm (.int (Int32.ofNat j))) (.int (f j)) ∈ sFL.filter (isEl tm) := by
    rw [h3]
    exact List.mem_map.mpr ⟨j, List.mem_range.mpr hj, rfl⟩
  exact (List.mem_filter.mp hm).1
theorem el_26 : sFL.filter (isEl (sTm 26)) = (List.range (mLen 0)).map (fun j => Cond.eq (.elem (sTm 26) (.int (Int32.ofNat j))) (.int (nI (mLet 0 j)))) := by decide +kernel
theorem el_27 : sFL.filter (isEl (sTm 27)) = (List.range (mLen 1)).map (fun j => Cond.eq (.elem (sTm 27) (.int (Int32.ofNat j))) (.int (nI (mLet 1 j)))) := by decide +kernel
theorem el_28 : sFL.filter (isEl (sTm 28)) = (List.range (mLen 2)).map (fun j => Cond.eq (.elem (sTm 28) (.int (Int32.ofNat j))) (.int (nI (mLet 2 j)))) := by decide +kernel
theorem el_29 : sFL.filter (isEl (sTm 29)) = (List.range (mLen 3)).map (fun j => Cond.eq (.elem (sTm 29) (.int (Int32.ofNat j))) (.int (nI (mLet 3 j)))) := by decide +kernel
theorem el_30 : sFL.filter (isEl (sTm 30)) = (List.range (mLen 4)).map (fun j => Cond.eq (.elem (sTm 30) (.int (Int32.ofNat j))) (.int (nI (mLet 4 j)))) := by decide +kernel
theorem el_31 : sFL.filter (isEl (sTm 31)) = (List.range (mLen 5)).map (fun j => Cond.eq (.elem (sTm 31) (.int (Int32.ofNat j))) (.int (nI (mLet 5 j)))) := by decide +kernel
theorem el_32 : sFL.filter (isEl (sTm 32)) = (List.range (mLen 6)).map (fun j => Cond.eq (.elem (sTm 32) (.int (Int32.ofNat j))) (.int (nI (mLet 6 j)))) := by decide +kernel
theorem el_33 : sFL.filter (isEl (sTm 33)) = (List.range (mLen 7)).map (fun j => Cond.eq (.elem (sTm 33) (.int (Int32.ofNat j))) (.int (nI (mLet 7 j)))) := by decide +kernel
theorem el_34 : sFL.filter (isEl (sTm 34)) = (List.range (mLen 8)).map (fun j => Cond.eq (.elem (sTm 34) (.int (Int32.ofNat j))) (.int (nI (mLet 8 j)))) := by decide +kernel
theorem el_35 : sFL.filter (isEl (sTm 35)) = (List.range (mLen 9)).map (fun j => Cond.eq (.elem (sTm 35) (.int (Int32.ofNat j))) (.int (nI (mLet 9 j)))) := by decide +kernel
theorem el_36 : sFL.filter (isEl (sTm 36)) = (List.range (mLen 10)).map (fun j => Cond.eq (.elem (sTm 36) (.int (Int32.ofNat j))) (.int (nI (mLet 10 j)))) := by decide +kernel
theorem el_37 : sFL.filter (isEl (sTm 37)) = (List.range (mLen 11)).map (fun j => Cond.eq (.elem (sTm 37) (.int (Int32.ofNat j))) (.int (nI (mLet 11 j)))) := by decide +kernel
theorem el_39 : sFL.filter (isEl (sTm 39)) = (List.range 65).map (fun j => Cond.eq (.elem (sTm 39) (.int (Int32.ofNat j))) (.int (nI (mLet 12 j)))) := by decide +kernel
theorem el_42 : sFL.filter (isEl (sTm 42)) = (List.range 100).map (fun j => Cond.eq (.elem (sTm 42) (.int (Int32.ofNat j))) (.int (nI (48 + j / 10)))) := by decide +kernel
end SY
