/-! the start: classes of arrays; statics, pairs that can't be cast, words -/
section SU
variable {s : State} {args : Array Value}
theorem st_prim {ty : FieldType} (h : (Cond.arrayClass ty).before args s = true) (hp : ∀ C, ty ≠ .object C) : ∃ cA : ClassId, ArrOfT s cA ty ∧ va_RA s cA ty := by
  obtain ⟨cA, kA, comp, h1, h2, h3⟩ := Cond.arrayClass_spec h
  refine ⟨cA, fun n z => ⟨(fun k h => by cases h), kA, h2, comp, h3⟩, ?_⟩
  cases ty with
  | object C => exact absurd rfl (hp C)
  | _ => exact h1
theorem st_obj {C : String} (h : (Cond.arrayOver (.object C)).before args s = true) : ∃ cA : ClassId, ArrOfT s cA (.object C) ∧ va_RA s cA (.object C) := by
  obtain ⟨comp, cA, k, h1, h2, h3, h4, h5⟩ := Cond.arrayOver_spec h
  exact ⟨cA, fun n z => ⟨(fun k h => by cases h), k, h3, comp, h4⟩, k, comp, h3, h4, h1, h5⟩
theorem st_arr (hts : ∀ w ∈ lw_tbl, w.before args s = true) : ∃ tc : Nat → ClassId, ∀ (k : Nat) (q : ClassId × FieldType), ([(tc 0, .int), (tc 1, .boolean), (tc 2, .int), (tc 3, .int), (tc 4, .byte), (tc 5, .object "FloatingDock$Ship"), (tc 6, .object "FloatingDock$Dock")] : List (ClassId × FieldType))[k]? = some q → ArrOfT s q.1 q.2 ∧ va_RA s q.1 q.2 := by
  obtain ⟨c0, a0⟩ := st_prim (hts (.arrayClass .int) (by decide +kernel)) (fun C h => by cases h)
  obtain ⟨c1, a1⟩ := st_prim (hts (.arrayClass .boolean) (by decide +kernel)) (fun C h => by cases h)
  obtain ⟨c4, a4⟩ := st_prim (hts (.arrayClass .byte) (by decide +kernel)) (fun C h => by cases h)
  obtain ⟨c5, a5⟩ := st_obj (hts (.arrayOver (.object "FloatingDock$Ship")) (by decide +kernel))
  obtain ⟨c6, a6⟩ := st_obj (hts (.arrayOver (.object "FloatingDock$Dock")) (by decide +kernel))
  refine ⟨fun k => ([c0, c1, c0, c0, c4, c5, c6] : List ClassId).getD k 0, fun k q hq => ?_⟩
  have hk : k < 7 := (List.getElem?_eq_some_iff.mp hq).1
  have : k = 0 ∨ k = 1 ∨ k = 2 ∨ k = 3 ∨ k = 4 ∨ k = 5 ∨ k = 6 := by omega
  rcases this with rfl | rfl | rfl | rfl | rfl | rfl | rfl
  all_goals
    injection hq with hq
    subst hq
    assumption
theorem st_nc (hgv : (Jvm.Cond.and given_1 narrow_1).before args s = true) : ∀ q ∈ mNc, va_Nc q.1 q.2 s := by
  have hs := flat_of_before _ hgv
  have h : mNc.all (fun q => decide (Cond.not (.castable q.1 q.2) ∈ flatC (Jvm.Cond.and given_1 narrow_1))) = true := by decide +kernel
  intro q hq
  have := List.all_eq_true.mp h q hq
  exact va_Nc.of (hs _ (of_decide_eq_true this))
end SU
