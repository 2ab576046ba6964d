/-! the start: classes -/
section ST
variable {s : State} {args : Array Value}
theorem st_inst : ∀ q ∈ mCl, ∃ n : Nat, Cond.instantiable q.1 n ∈ lw_tbl := by
  intro q hq
  simp only [mCl, List.mem_cons, List.not_mem_nil, or_false] at hq
  rcases hq with rfl | rfl | rfl | rfl | rfl | rfl | rfl | rfl | rfl | rfl | rfl | rfl | rfl | rfl | rfl | rfl
  · exact ⟨11, by decide +kernel⟩
  · exact ⟨8, by decide +kernel⟩
  · exact ⟨3, by decide +kernel⟩
  · exact ⟨9, by decide +kernel⟩
  · exact ⟨2, by decide +kernel⟩
  · exact ⟨3, by decide +kernel⟩
  · exact ⟨6, by decide +kernel⟩
  · exact ⟨7, by decide +kernel⟩
  · exact ⟨4, by decide +kernel⟩
  · exact ⟨4, by decide +kernel⟩
  all_goals exact ⟨6, by decide +kernel⟩
theorem st_known (hts : ∀ w ∈ lw_tbl, w.before args s = true) (hg : ∀ w ∈ gtbl, w.before args s = true) : ∃ (dc : Nat → ClassId) (di : Nat → Nat → Nat), ∀ (c : Nat) (q : vw_C), mCl[c]? = some q → u_Kn s q.1 q.2.1 q.2.2 (dc c) (di c) := by
  have h : ∀ c : Nat, ∃ x : ClassId × (Nat → Nat), ∀ q : vw_C, mCl[c]? = some q → u_Kn s q.1 q.2.1 q.2.2 x.1 x.2 := by
    intro c
    cases e : mCl[c]? with
    | none => exact ⟨(0, fun _ => 0), fun q hq => by cases hq⟩
    | some q =>
      have hq := List.mem_of_getElem? e
      obtain ⟨n, hn⟩ := st_inst q hq
      obtain ⟨cC, iS, hk⟩ := u_known hg (mCl_ok q hq).1 (hts _ hn)
      refine ⟨(cC, iS), fun q2 h2 => ?_⟩
      cases h2
      exact hk
  exact ⟨fun c => (h c).choose.1, fun c => (h c).choose.2, fun c q hq => (h c).choose_spec q hq⟩
end ST
