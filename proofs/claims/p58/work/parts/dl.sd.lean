/-! the start: what each old thing is -/
section SD
variable {s : State} {args : Array Value} {A : Nat → Prop}
def otAd (args : Array Value) (s : State) (n : Nat) : Nat := match (sTm n).eval args s none [] s with
  | some (.ref a) => a
  | _ => 0
abbrev otEv (args : Array Value) (s : State) (n : Nat) : Prop := (sTm n).eval args s none [] s = some (.ref (otAd args s n))
theorem ot_ev {n a : Nat} (h : (sTm n).eval args s none [] s = some (.ref a)) : otEv args s n ∧ otAd args s n = a := by
  have e : otAd args s n = a := by
    unfold otAd
    rw [h]
  refine ⟨?_, e⟩
  unfold otEv
  rw [e]
  exact h
theorem ot_ex (hgv : (Jvm.Cond.and given_1 narrow_1).before args s = true) (hA : ∀ a : Nat, a < s.heap.size → ¬ A a) {n : Nat} {nm : String} (h : Cond.exactly (sTm n) nm ∈ sFL) : otEv args s n ∧ va_O nm (otAd args s n) A s s.heap := by
  have hb := flat_of_before _ hgv _ h
  obtain ⟨a, c, cA, kA, q1, q2, q3, q4, q5, q6, -⟩ := Cond.exactly_spec (args := args) (first := s) (o := none) (s := s) (idx := []) (t := sTm n) (cls := nm) hb
  obtain ⟨e1, -⟩ := ot_ev q1
  exact ⟨e1, va_Oof hb e1 hA⟩
theorem ot_T {n N : Nat} {ty : FieldType} {f : Nat → Value} (h : ∃ t : Nat, (sTm n).eval args s none [] s = some (.ref t) ∧ va_T ty t N f A s s.heap) : otEv args s n ∧ va_T ty (otAd args s n) N f A s s.heap := by
  obtain ⟨t, h1, h2⟩ := h
  obtain ⟨e1, e2⟩ := ot_ev h1
  exact ⟨e1, by rw [e2]; exact h2⟩
theorem ot_OF (hgv : (Jvm.Cond.and given_1 narrow_1).before args s = true) (hA : ∀ a : Nat, a < s.heap.size → ¬ A a) {n : Nat} {o nm d : String} {u : Term} {v : Value} (he : otEv args s n) (h : Cond.eq (.field (sTm n) o nm d) u ∈ sFL) (hu : u.eval args s none [] s = some v) : va_OF o nm d v (otAd args s n) A s s.heap :=
  vk_OFof he (va_eqv (flat_of_before _ hgv _ h) hu) hA
theorem ot_SR {own tx : String} {k n : Nat} (h : (Cond.stringRef own k tx).before args s = true) (hn : sTm n = .string own k) : vk_R own k tx (otAd args s n) s := by
  have hcur : ∃ cur, s.vm.findClass own = some cur := by
    have h1 := h
    simp only [Cond.before, Cond.holds, Cond.value] at h1
    cases hc : s.vm.findClass own with
    | none => simp [hc] at h1
    | some cur => exact ⟨cur, rfl⟩
  obtain ⟨cur, hc⟩ := hcur
  obtain ⟨k0, cf, j, a, -, -, -, -, -, hev⟩ := Cond.stringRef_spec hc h
  rw [← hn] at hev
  obtain ⟨e1, -⟩ := ot_ev hev
  refine vk_R.of h ?_
  rw [← hn]
  exact e1
theorem sq_sr : mSR.all (fun q => decide (sTm q.1 = .string q.2.1 q.2.2.1)) = true := by decide +kernel
theorem ot_sq (hgv : (Jvm.Cond.and given_1 narrow_1).before args s = true) : ∃ v : Value, (Term.static "jdk/internal/util/Preconditions" "SIOOBE_FORMATTER" "Ljava/util/function/BiFunction;").eval args s none [] s = some v ∧ v.category = 1 := by
  have h := flat_of_before _ hgv _ sio_1
  cases hv : (Term.static "jdk/internal/util/Preconditions" "SIOOBE_FORMATTER" "Ljava/util/function/BiFunction;").eval args s none [] s with
  | none => simp [Cond.before, Cond.holds, Cond.value, hv] at h
  | some w =>
    simp only [Cond.before, Cond.holds, Cond.value, hv] at h
    cases w with
    | null => exact ⟨_, rfl, rfl⟩
    | ref t => exact ⟨_, rfl, rfl⟩
    | _ => simp at h
end SD
