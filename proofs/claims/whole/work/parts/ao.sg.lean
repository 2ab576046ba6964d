/-! the start: all of it -/
section SG
variable {s : State} {args : Array Value}
theorem ot_od {A : Nat → Prop} (hgv : (Jvm.Cond.and given_1 narrow_1).before args s = true) (hA : ∀ a : Nat, a < s.heap.size → ¬ A a) {n : Nat} (hn : n < 12) : va_OF "java/lang/Enum" "ordinal" "I" (.int (Int32.ofNat n)) (otAd args s n) A s s.heap := by
  have : n = 0 ∨ n = 1 ∨ n = 2 ∨ n = 3 ∨ n = 4 ∨ n = 5 ∨ n = 6 ∨ n = 7 ∨ n = 8 ∨ n = 9 ∨ n = 10 ∨ n = 11 := by omega
  rcases this with rfl | rfl | rfl | rfl | rfl | rfl | rfl | rfl | rfl | rfl | rfl | rfl
  · exact ot_OF hgv hA (ot_ex hgv hA ex_0).1 od_0 rfl
  · exact ot_OF hgv hA (ot_ex hgv hA ex_1).1 od_1 rfl
  · exact ot_OF hgv hA (ot_ex hgv hA ex_2).1 od_2 rfl
  · exact ot_OF hgv hA (ot_ex hgv hA ex_3).1 od_3 rfl
  · exact ot_OF hgv hA (ot_ex hgv hA ex_4).1 od_4 rfl
  · exact ot_OF hgv hA (ot_ex hgv hA ex_5).1 od_5 rfl
  · exact ot_OF hgv hA (ot_ex hgv hA ex_6).1 od_6 rfl
  · exact ot_OF hgv hA (ot_ex hgv hA ex_7).1 od_7 rfl
  · exact ot_OF hgv hA (ot_ex hgv hA ex_8).1 od_8 rfl
  · exact ot_OF hgv hA (ot_ex hgv hA ex_9).1 od_9 rfl
  · exact ot_OF hgv hA (ot_ex hgv hA ex_10).1 od_10 rfl
  · exact ot_OF hgv hA (ot_ex hgv hA ex_11).1 od_11 rfl
theorem ot_i12 : ∀ i : Nat, i < 12 → ∀ j : Nat, j < 12 → Int32.ofNat i = Int32.ofNat j → i = j := by decide +kernel
theorem ot_OFv {o nm d : String} {v w : Value} {a : Nat} {A : Nat → Prop} {H : Heap} (h1 : va_OF o nm d v a A s H) (h2 : va_OF o nm d w a A s H) : v = w := by
  obtain ⟨cf, k, i, f, cell, p1, p2, p3, p4, p5, p6⟩ := h1
  obtain ⟨cf', k', i', f', cell', q1, q2, q3, q4, q5, q6⟩ := h2
  cases p1.symm.trans q1
  cases p3.symm.trans q3
  exact Option.some.inj (p5.symm.trans q5)
theorem ot_mI {D : va_G} {tc : Nat → ClassId} {sq : Value} {L : Nat} {xs : Nat → Int32} (hgv : (Jvm.Cond.and given_1 narrow_1).before args s = true) : mI (thW args s D tc sq L xs) := by
  intro i j hi hj e
  have hA : ∀ a : Nat, a < s.heap.size → ¬ (fun q : Nat => s.heap.size ≤ q) a := fun a h1 h2 => absurd h1 (Nat.not_lt.mpr h2)
  have e2 : otAd args s i = otAd args s j := e
  have h1 := ot_od hgv hA hi
  have h2 := ot_od hgv hA hj
  rw [e2] at h1
  have h3 := ot_OFv h1 h2
  injection h3 with h4
  exact ot_i12 i hi j hj h4
theorem ks_all {D : va_G} {tc : Nat → ClassId} {sq : Value} {b L : Nat} {xs : Nat → Int32} (hts : ∀ w ∈ lw_tbl, w.before #[Value.ref b] s = true) (hgv : (Jvm.Cond.and given_1 narrow_1).before #[Value.ref b] s = true) (hX : va_X b L xs s s.heap) (hb : b < s.heap.size) (hsq : (Term.static "jdk/internal/util/Preconditions" "SIOOBE_FORMATTER" "Ljava/util/function/BiFunction;").eval #[Value.ref b] s none [] s = some sq) (hD : ∀ (c : Nat) (q : vw_C), mCl[c]? = some q → u_Kn s q.1 q.2.1 q.2.2 (D.1 c) (D.2 c)) (hT : ∀ (k : Nat) (q : ClassId × FieldType), ([(tc 0, .int), (tc 1, .boolean), (tc 2, .long), (tc 3, .double), (tc 4, .byte), (tc 5, .object "FloatingDock$Ship"), (tc 6, .object "FloatingDock$Dock")] : List (ClassId × FieldType))[k]? = some q → ArrOfT s q.1 q.2 ∧ va_RA s q.1 q.2) : mKS (thW #[Value.ref b] s D tc sq L xs) s s.heap := by
  have hA : ∀ a : Nat, a < s.heap.size → ¬ mwA (thW #[Value.ref b] s D tc sq L xs) a := fun a h1 h2 => absurd h1 (Nat.not_lt.mpr h2)
  have h40 : va_T .int (otAd #[Value.ref b] s 40) L (fun j => .int (xs j)) (mwA (thW #[Value.ref b] s D tc sq L xs)) s s.heap := by
    rw [ot_b]
    exact ot_40 hb hA hX
  exact ⟨⟨hD, hT⟩, ks_St hts hgv hA hsq, ks_OA hgv hA h40, ks_OF hgv hA, ks_OO hgv hA, ks_SR hts, st_nws hts, st_nc hgv, st_zq1 hts hgv hA, ⟨st_zq2 hts hgv hA, st_ao hts⟩, Nat.le_refl _⟩
end SG
